/-! telling, drawing, kinds, trace, fault, numbers, the rule, serving, flows read -/
section A2
variable {sg c m : Hp} {x y z : Int32}
theorem Rel_tr {v : Int32} (h : Rel c m) : Rel (up2 c 0 7 v) (up2 m 300 24 v) := by
  obtain ⟨⟨n, h0⟩, h1, h2⟩ := h
  refine Rel_end (eqC.up (by unfold sC; omega)) (eqM.up (by unfold sM; omega)) h0 (by rw [up2_s, up2_s]) (by rw [up2_o (by omega), up2_o (by omega)]; exact h2)
theorem Rel_leave {a : Int32} (h : Rel c m) : Rel (up2 c 0 7 (31 * c 0 7 + a)) (up2 m 300 24 (31 * m 300 24 + a)) := by
  rw [h.2.1]
  exact Rel_tr h
theorem leave_ok {a : Int32} : fX6_leaveInTrace a sg = some ((), up2 sg 0 7 (31 * sg 0 7 + a)) := rfl
theorem traced_ok {a : Int32} : fX7_traced a sg = some ((), up2 sg 300 24 (31 * sg 300 24 + a)) := rfl
theorem i10 : (10 : Int32) = nI 10 := rfl
theorem toldS_ok {f : Nat} (hf : f < 24) : fX6_toldBySteps (nI f) sg = some (sg (100 + f) 10, up2 sg 0 7 (31 * sg 0 7 + 1)) := by
  unfold fX6_toldBySteps
  rw [leave_ok, bnd_s, row_ok hf, bnd_s, alC hf, i10, gd_t (inbN (by omega) (by omega)), nI_clamp (by omega), up2_o (by omega)]
theorem eqk {a b : Nat} (ha : a < 3) (hb : b < 3) : (nI a = nI b) = (a = b) := eqN (by omega) (by omega)
theorem rowN {f : Nat → Int32} (h : okRow f) {t : Nat} (ht : t < 41) : ∃ k, k ≤ 99999 ∧ f t = nI k := by
  have h1 := h.2.1 t ht
  exact upN (n := 99999) (by omega) h1
theorem tell_st (h : Rel c m) : Sim (fX6_tell x) (fX7_tell x) c m := by
  have hR := h
  obtain ⟨⟨n, h0⟩, hT, hF⟩ := h
  obtain ⟨h1, h2, h3, h4⟩ := h0.1
  rcases arg_cases x (n := n) (by omega) with ⟨i, hi, rfl⟩ | hx
  · obtain ⟨r1, r2, k, hk, ek, fk⟩ := h4 i hi
    obtain ⟨v, hv, ev⟩ := rowN r1 (show 10 < 41 by omega)
    have em := r2 10 (by omega)
    rcases (show k = 0 ∨ k = 1 ∨ k = 2 by omega) with rfl | rfl | rfl
    · refine ⟨c (100 + i) 10, _, _, ?_, ?_, Rel_leave (a := 1) hR⟩
      · unfold fX6_tell B_X6_tell_52
        rw [has_y h2 h1 (rgN hi (by omega)), bnd_s, if_neg ne10, gd_t (inbN (by omega) (by omega)), nI_clamp (by omega), ek, if_neg (by decide), if_neg (by decide), toldS_ok (by omega), bnd_s]
      · unfold fX7_tell B_X7_tell_27 B_X7_tell_36 B_X7_tell_51 B_X7_tell_87
        rw [noSt_y h3 h1 (rgN hi (by omega)), bnd_s, if_pos rfl, gd_t (inbN (by omega) (by omega)), nI_clamp (by omega), fk, if_neg (by decide), if_pos (by decide), traced_ok, bnd_s, if_neg (by decide), i10, of_ok (by omega) (by omega), bnd_s, if_pos (by decide)]
        unfold mr at em ⊢
        rw [up2_o (by omega), em]
    · refine ⟨c (100 + i) 10 + 100000, _, _, ?_, ?_, Rel_leave (a := 1) (Rel_leave (a := 2) hR)⟩
      · unfold fX6_tell B_X6_tell_52 fX6_toldByBucket
        rw [has_y h2 h1 (rgN hi (by omega)), bnd_s, if_neg ne10, gd_t (inbN (by omega) (by omega)), nI_clamp (by omega), ek, if_neg (by decide), if_pos (by decide), leave_ok, bnd_s, toldS_ok (by omega), bnd_s, bnd_s, up2_o (by omega)]
      · unfold fX7_tell B_X7_tell_27 B_X7_tell_36 B_X7_tell_51 B_X7_tell_87
        rw [noSt_y h3 h1 (rgN hi (by omega)), bnd_s, if_pos rfl, gd_t (inbN (by omega) (by omega)), nI_clamp (by omega), fk, if_neg (by decide), if_neg (by decide), traced_ok, bnd_s, traced_ok, bnd_s, if_neg (by decide), i10, of_ok (by omega) (by omega), bnd_s, if_neg (by decide), if_pos (by decide)]
        unfold mr at em ⊢
        rw [up2_o (by omega), up2_o (by omega), em]
    · refine ⟨(c (100 + i) 10 + 100000) + c (100 + i) 10, _, _, ?_, ?_, Rel_leave (a := 1) (Rel_leave (a := 1) (Rel_leave (a := 2) (Rel_leave (a := 3) hR)))⟩
      · unfold fX6_tell fX6_toldByLate fX6_toldByBucket
        rw [has_y h2 h1 (rgN hi (by omega)), bnd_s, if_neg ne10, gd_t (inbN (by omega) (by omega)), nI_clamp (by omega), ek, if_pos (by decide), leave_ok, bnd_s, leave_ok, bnd_s, toldS_ok (by omega), bnd_s, bnd_s, toldS_ok (by omega), bnd_s, bnd_s, up2_o (by omega), up2_o (by omega), up2_o (by omega), up2_o (by omega), up2_o (by omega)]
      · unfold fX7_tell B_X7_tell_27 B_X7_tell_36 B_X7_tell_51 B_X7_tell_87
        rw [noSt_y h3 h1 (rgN hi (by omega)), bnd_s, if_pos rfl, gd_t (inbN (by omega) (by omega)), nI_clamp (by omega), fk, if_pos (by decide), traced_ok, bnd_s, if_neg (by decide), traced_ok, bnd_s, traced_ok, bnd_s, if_pos (by decide), traced_ok, bnd_s, i10, of_ok (by omega) (by omega), bnd_s, if_neg (by decide), if_neg (by decide)]
        unfold mr at em ⊢
        rw [up2_o (by omega), up2_o (by omega), up2_o (by omega), up2_o (by omega), em, ev, show (2 : Int32) = nI 2 from rfl, show (100000 : Int32) = nI 100000 from rfl, pk_mul, nI_add, nI_add, nI_add, show 2 * v + 100000 = v + 100000 + v by omega]
  · refine ⟨-1, c, m, ?_, ?_, hR⟩
    · unfold fX6_tell
      rw [has_n h2 h1 hx, bnd_s, if_pos rfl]
    · unfold fX7_tell
      rw [noSt_n h3 h1 hx, bnd_s, if_neg ne10]
theorem draw_st (h : Rel c m) : Sim (fX6_draw x) (fX7_draw x) c m := by
  have hR := h
  obtain ⟨⟨n, h0⟩, hT, hF⟩ := h
  obtain ⟨h1, h2, h3, h4⟩ := h0.1
  rcases arg_cases x (n := n) (by omega) with ⟨i, hi, rfl⟩ | hx
  · obtain ⟨r1, r2, k, hk, ek, fk⟩ := h4 i hi
    by_cases e : k = 2
    · subst e
      refine ⟨60, _, _, ?_, ?_, Rel_leave (a := 5) hR⟩
      · unfold fX6_draw
        rw [has_y h2 h1 (rgN hi (by omega)), bnd_s, if_neg ne10, gd_t (inbN (by omega) (by omega)), nI_clamp (by omega), ek, if_pos (by decide), leave_ok, bnd_s]
      · unfold fX7_draw B_X7_draw_26 B_X7_draw_45
        rw [noSt_y h3 h1 (rgN hi (by omega)), bnd_s, if_pos rfl, gd_t (inbN (by omega) (by omega)), nI_clamp (by omega), fk, if_pos (by decide), traced_ok, bnd_s, gd_t (inbN (by omega) (by omega)), up2_o (by omega), fk, if_pos (by decide)]
    · have ne : ¬ nI k = 2 := by rw [show (2 : Int32) = nI 2 from rfl, eqk hk (by omega)]; exact e
      refine ⟨nI i, _, _, ?_, ?_, Rel_leave (a := 4) hR⟩
      · unfold fX6_draw
        rw [has_y h2 h1 (rgN hi (by omega)), bnd_s, if_neg ne10, gd_t (inbN (by omega) (by omega)), nI_clamp (by omega), ek, if_neg ne, leave_ok, bnd_s]
      · unfold fX7_draw B_X7_draw_26 B_X7_draw_45
        rw [noSt_y h3 h1 (rgN hi (by omega)), bnd_s, if_pos rfl, gd_t (inbN (by omega) (by omega)), nI_clamp (by omega), fk, if_neg ne, traced_ok, bnd_s, gd_t (inbN (by omega) (by omega)), up2_o (by omega), fk, if_neg ne]
  · refine ⟨-1, c, m, ?_, ?_, hR⟩
    · unfold fX6_draw
      rw [has_n h2 h1 hx, bnd_s, if_pos rfl]
    · unfold fX7_draw
      rw [noSt_n h3 h1 hx, bnd_s, if_neg ne10]
/-- a call's end that tells a fault, or none, and changes nothing else -/
theorem Rel_fault {v : Int32} (h : Rel c m) : Rel (up2 c 0 8 v) (up2 m 300 0 v) := by
  obtain ⟨⟨n, h0⟩, h1, h2⟩ := h
  exact Rel_end (eqC.up (by unfold sC; omega)) (eqM.up (by unfold sM; omega)) h0 (by rw [up2_o (by omega), up2_o (by omega)]; exact h1) (by rw [up2_s, up2_s])
theorem as_st (h : Rel c m) : Sim (fX6_as x y) (fX7_as x y) c m := by
  have hR := h
  obtain ⟨⟨n, h0⟩, hT, hF⟩ := h
  obtain ⟨h1, h2, h3, h4⟩ := h0.1
  rcases arg_cases x (n := n) (by omega) with ⟨i, hi, rfl⟩ | hx
  · obtain ⟨r1, r2, k, hk, ek, fk⟩ := h4 i hi
    by_cases hy : 0 ≤ y.toInt ∧ y.toInt ≤ 2
    · obtain ⟨w, hw, rfl⟩ := upN (n := 2) (by omega) hy
      by_cases e : k < w
      · have lt : nI k < nI w := by rw [ltN (by omega) (by omega)]; exact e
        refine ⟨-12, _, _, ?_, ?_, Rel_fault (v := 2) hR⟩
        · unfold fX6_as fX6_takenAs B_X6_takenAs_43
          rw [has_y h2 h1 (rgN hi (by omega)), bnd_s, if_neg ne10, up_y hy, bnd_s, if_neg ne10, gd_t (inbN (by omega) (by omega)), nI_clamp (by omega), ek, if_pos lt, bnd_s, ended_ok, bnd_s, show flt (-12) = 2 by decide]
        · unfold fX7_as B_X7_as_56 fX7_failed
          rw [noSt_y h3 h1 (rgN hi (by omega)), bnd_s, if_pos rfl, in_y (a := 0) (b := 2) hy, bnd_s, if_neg ne10, gd_t (inbN (by omega) (by omega)), nI_clamp (by omega), fk, if_pos lt, bnd_s, show (-10 - 2 : Int32) = -12 by decide]
      · have lt : ¬ nI k < nI w := by rw [ltN (by omega) (by omega)]; exact e
        refine ⟨1, _, _, ?_, ?_, Rel_fault (v := 0) hR⟩
        · unfold fX6_as fX6_takenAs B_X6_takenAs_43
          rw [has_y h2 h1 (rgN hi (by omega)), bnd_s, if_neg ne10, up_y hy, bnd_s, if_neg ne10, gd_t (inbN (by omega) (by omega)), nI_clamp (by omega), ek, if_neg lt, bnd_s, ended_ok, bnd_s, show flt 1 = 0 by decide]
        · unfold fX7_as B_X7_as_56 fX7_refused
          rw [noSt_y h3 h1 (rgN hi (by omega)), bnd_s, if_pos rfl, in_y (a := 0) (b := 2) hy, bnd_s, if_neg ne10, gd_t (inbN (by omega) (by omega)), nI_clamp (by omega), fk, if_neg lt, bnd_s]
    · refine ⟨-2, _, _, ?_, ?_, Rel_fault (v := 0) hR⟩
      · unfold fX6_as fX6_takenAs
        rw [has_y h2 h1 (rgN hi (by omega)), bnd_s, if_neg ne10, up_n hy, bnd_s, if_pos rfl, bnd_s, ended_ok, bnd_s, show flt (-2) = 0 by decide]
      · unfold fX7_as fX7_refused
        rw [noSt_y h3 h1 (rgN hi (by omega)), bnd_s, if_pos rfl, in_n (a := 0) (b := 2) hy, bnd_s, if_pos rfl, bnd_s]
  · refine ⟨-1, _, _, ?_, ?_, Rel_fault (v := 0) hR⟩
    · unfold fX6_as fX6_takenAs
      rw [has_n h2 h1 hx, bnd_s, if_pos rfl, bnd_s, ended_ok, bnd_s, show flt (-1) = 0 by decide]
    · unfold fX7_as fX7_refused
      rw [noSt_n h3 h1 hx, bnd_s, if_neg ne10, bnd_s]
theorem trace_st (h : Rel c m) : Sim fX6_trace fX7_trace c m := ⟨c 0 7, c, m, rfl, by unfold fX7_trace; rw [h.2.1], h⟩
theorem fault_st (h : Rel c m) : Sim fX6_fault fX7_fault c m := ⟨c 0 8, c, m, rfl, by unfold fX7_fault; rw [h.2.2], h⟩
/-- how many of the first places aren't -9 -/
def cntS (f : Nat → Int32) : Nat → Nat
  | 0 => 0
  | n + 1 => if f n = -9 then cntS f n else cntS f n + 1
theorem cntS_le (f : Nat → Int32) : ∀ n, cntS f n ≤ n
  | 0 => Nat.le_refl _
  | n + 1 => by
    have := cntS_le f n
    unfold cntS
    split <;> omega
theorem i6 : (6 : Int32) = nI 6 := rfl
theorem nlt6 {t : Nat} (ht : t < 6) : ¬ (6 : Int32) ≤ nI t := by
  rw [i6, leN (by omega) (by omega)]
  omega
theorem serving_ok : fX0_servingNodes sg = some (nI (cntS (sg 10) 6), sg) := by
  unfold fX0_servingNodes
  exact nloop (N := 6) (M := 0) (fun n t => L_X0_servingNodes_4 (fun (w : Int32) (s2 : Hp) => some (w, s2)) n (nI (cntS (sg 10) t)) (nI t) sg) (some (nI (cntS (sg 10) 6), sg))
    (fun n t _ ht => by
      simp only [L_X0_servingNodes_4, if_neg (nlt6 ht), B_X0_servingNodes_24]
      rw [gd_t (inbN ht (by omega)), nI_clamp (by omega)]
      by_cases h : sg 10 t = -9
      · rw [if_pos h, nI_1]
        have : cntS (sg 10) (t + 1) = cntS (sg 10) t := by rw [cntS, if_pos h]
        rw [this]
      · rw [if_neg h, nI_1, nI_1]
        have : cntS (sg 10) (t + 1) = cntS (sg 10) t + 1 := by rw [cntS, if_neg h]
        rw [this])
    (fun n => by
      simp only [L_X0_servingNodes_4]
      rw [if_pos (by decide)])
    200 0 (by omega) (by omega) (by omega)
theorem many_in {k : Int32 → Int32 → Hp → Option (Int32 × Hp)} (hs : ∀ v, v < 6 → (sg 311 v < 0) = (sg 311 v = -9)) : L_X7_many_4 k 200 x 0 0 sg = k x (nI (cntS (sg 311) 6)) sg :=
  nloop (N := 6) (M := 0) (fun n t => L_X7_many_4 k n x (nI (cntS (sg 311) t)) (nI t) sg) (k x (nI (cntS (sg 311) 6)) sg)
    (fun n t _ ht => by
      simp only [L_X7_many_4, if_neg (nlt6 ht), B_X7_many_25]
      rw [gd_t (inbN ht (by omega)), nI_clamp (by omega)]
      by_cases h : sg 311 t = -9
      · rw [if_pos (by rw [hs t ht]; exact h), i0, nI_add, nI_1, Nat.add_zero]
        have : cntS (sg 311) (t + 1) = cntS (sg 311) t := by rw [cntS, if_pos h]
        rw [this]
      · rw [if_neg (by rw [hs t ht]; exact h), nI_1, nI_1]
        have : cntS (sg 311) (t + 1) = cntS (sg 311) t + 1 := by rw [cntS, if_neg h]
        rw [this])
    (fun n => by
      simp only [L_X7_many_4]
      rw [if_pos (by decide)])
    200 0 (by omega) (by omega) (by omega)
theorem cntS_cong {f g : Nat → Int32} : ∀ {n}, (∀ i, i < n → f i = g i) → cntS f n = cntS g n
  | 0, _ => rfl
  | n + 1, h => by
    unfold cntS
    rw [h n (by omega), cntS_cong (fun i hi => h i (by omega))]
theorem nneg {n : Nat} (h : n < 1000000) : ¬ nI n < 0 := nI_pos (by omega)
theorem nn9 {n : Nat} (h : n < 1000000) : ¬ nI n = -9 := by
  rw [fa_eq, nI_toInt (by omega)]
  have : (-9 : Int32).toInt = -9 := by decide
  omega
theorem srv9 {n : Nat} {N : NT} (hn : n ≤ 24) (h : netM m N n) : ∀ v, v < 6 → (m 311 v < 0) = (m 311 v = -9) := fun v hv => by
  rcases h.2.2.2 v hv with e | ⟨f, h1, h2, -⟩
  · rw [e]; decide
  · rw [h2]
    exact propext ⟨fun h => absurd h (nneg (by omega)), fun h => absurd h (nn9 (by omega))⟩
theorem many_st (h : Rel c m) : Sim (fX6_many x) (fX7_many x) c m := by
  have hR := h
  obtain ⟨⟨n, h0⟩, hT, hF⟩ := h
  obtain ⟨h1, h2, h3, h4⟩ := h0.1
  obtain ⟨-, -, ⟨q, hq1, hq2, hq3, -⟩, N, hN, hC, hM, g4, g5, g6⟩ := h0
  have em := many_in (sg := m) (x := x) (k := fun (w1_1 : Int32) (w1_2 : Int32) (s2 : Hp) => (if w1_1 = 0 then B_X7_many_79 (s2 300 1) s2 else (if w1_1 = (1 : Int32) then B_X7_many_79 (s2 300 12) s2 else (if w1_1 = (2 : Int32) then B_X7_many_79 (s2 300 19) s2 else (if w1_1 = (3 : Int32) then B_X7_many_79 w1_2 s2 else B_X7_many_79 (-2 : Int32) s2))))) (srv9 h1 hM)
  have ec := cntS_cong (f := c 10) (g := m 311) (n := 6) g5
  unfold Sim fX6_many fX7_many
  rw [em]
  unfold B_X7_many_79
  by_cases e0 : x = 0
  · refine ⟨c 1 2, c, m, ?_, ?_, hR⟩
    · rw [if_pos e0]
    · rw [if_pos e0, h2, h3]
  · by_cases e1 : x = 1
    · refine ⟨c 2 5, c, m, ?_, ?_, hR⟩
      · rw [if_neg e0, if_pos e1]
      · rw [if_neg e0, if_pos e1, hC.1, hM.1]
    · by_cases e2 : x = 2
      · refine ⟨c 3 2, c, m, ?_, ?_, hR⟩
        · rw [if_neg e0, if_neg e1, if_pos e2]
        · rw [if_neg e0, if_neg e1, if_pos e2, hq2, hq3]
      · by_cases e3 : x = 3
        · refine ⟨nI (cntS (c 10) 6), c, m, ?_, ?_, hR⟩
          · rw [if_neg e0, if_neg e1, if_neg e2, if_pos e3, serving_ok, bnd_s]
          · rw [if_neg e0, if_neg e1, if_neg e2, if_pos e3, ec]
        · refine ⟨-2, c, m, ?_, ?_, hR⟩
          · rw [if_neg e0, if_neg e1, if_neg e2, if_neg e3]
          · rw [if_neg e0, if_neg e1, if_neg e2, if_neg e3]
end A2
