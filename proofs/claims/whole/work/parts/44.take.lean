/-! cells read, copied, taken -/
section A5
variable {sg c m : Hp} {x y z u v : Int32}
theorem cell_st (h : Rel c m) : Sim (fX6_cell x z y) (fX7_cell x z y) c m := by
  have hR := h
  obtain ⟨⟨n, hSt, hSh, hSe, hNt⟩, hT, hF⟩ := h
  have hSh2 : RSh c (up2 m 300 0 0) := RSh_cg (c := c) (d := c) (fun _ _ _ => rfl) (fun b j hb => up2_o (by unfold vSh at hb; omega)) hSh
  have hlost : ∀ s : Hp, fX7_lost s = some (-9223372036854775808, s) := fun s => rfl
  rcases untaken_ok (x := x) (y := y) hSh2 with ⟨r, hr, h1, h2⟩ | ⟨k, l, hk, rfl, hl, hy, h1, h2, h3, h4, h5⟩
  · refine ⟨-9223372036854775808, up2 c 0 8 (flt r), up2 m 300 0 (flt r), ?_, ?_, Rel_fault hR⟩
    · unfold fX6_cell fX3_whyUnread B_X6_cell_39
      have hr0 : ¬ r = 0 := fun e => by rw [e] at hr; exact absurd hr (by decide)
      rw [h1, bnd_s, if_neg hr0, bnd_s, ended_ok, bnd_s, if_neg hr0]
    · unfold fX7_cell
      rcases h2 with ⟨rfl, hx⟩ | ⟨k, hk, rfl, ⟨rfl, hy⟩ | ⟨hy, ⟨rfl, e⟩ | ⟨rfl, ⟨l, hl, e⟩, ne⟩⟩⟩
      · unfold B_X7_cell_24
        rw [noSh_n hx, bnd_s, if_neg ne10, hlost, bnd_s, show flt (-1) = 0 by decide]
      · unfold B_X7_cell_24
        rw [noSh_y (rg4 hk), bnd_s, if_pos rfl, in_n (l02n hy), bnd_s, if_pos rfl, hlost, bnd_s, show flt (-2) = 0 by decide]
      · unfold B_X7_cell_53 B_X7_cell_87 fX7_failedLong
        have uu : up2 (up2 m 300 0 0) 300 0 1 = up2 m 300 0 1 := by
          funext b j
          rw [up2_at, up2_at, up2_at]
          split <;> rfl
        rw [noSh_y (rg4 hk), bnd_s, if_pos rfl, in_y (l02 hy), bnd_s, if_neg ne10, gd_t (inbN hk (by omega)), nI_clamp (by omega), e, if_pos (by decide), noCell_n hk e, bnd_s, if_neg (by decide), noCell_n hk e, bnd_s, hlost, bnd_s, bnd_s, uu, show flt (-11) = 1 by decide]
      · unfold fX7_failedLong
        have uu : up2 (up2 m 300 0 0) 300 0 2 = up2 m 300 0 2 := by
          funext b j
          rw [up2_at, up2_at, up2_at]
          split <;> rfl
        rw [noSh_y (rg4 hk), bnd_s, if_pos rfl, in_y (l02 hy), bnd_s, if_neg ne10, gd_t (inbN hk (by omega)), nI_clamp (by omega), e, if_neg (nneg (by omega)), gd_t (inbN hk (by omega)), if_neg ne, hlost, bnd_s, bnd_s, uu, show flt (-12) = 2 by decide]
  · rcases arg_cases z (n := l) (by omega) with ⟨i, hi, rfl⟩ | hz
    · refine ⟨(c (210 + k) i).toInt64, up2 c 0 8 0, up2 m 300 0 0, ?_, ?_, Rel_fault hR⟩
      · unfold fX6_cell fX3_whyUnread B_X3_whyUnread_36 B_X6_cell_39
        rw [h1, bnd_s, if_pos rfl, if_neg (nneg (by omega)), gd_t (inbN hk (by omega)), nI_clamp (by omega), h2, if_pos (by rw [ltN (by omega) (by omega)]; exact hi), bnd_s, ended_ok, bnd_s, if_pos rfl, gd_t (inbN hk (by omega)), alS hk, gd_t (inbN (by omega) (by omega)), nI_clamp (by omega), show flt 0 = 0 by decide, up2_o (by omega)]
      · unfold fX7_cell B_X7_cell_53 B_X7_cell_87
        rw [noSh_y (rg4 hk), bnd_s, if_pos rfl, in_y (l02 hy), bnd_s, if_neg ne10, gd_t (inbN hk (by omega)), nI_clamp (by omega), h3, if_neg (nneg (by omega)), gd_t (inbN hk (by omega)), if_pos h4, noCell_y hk hl h3, if_pos (rgN hi (by omega)), bnd_s, if_pos (by decide), ix60, gd_t (inbN (by omega) (by omega)), nI_clamp (by omega), ← h5 i hi]
    · have uu : up2 (up2 m 300 0 0) 300 0 3 = up2 m 300 0 3 := by
        funext b j
        rw [up2_at, up2_at, up2_at]
        split <;> rfl
      refine ⟨-9223372036854775808, up2 c 0 8 3, up2 m 300 0 3, ?_, ?_, Rel_fault hR⟩
      · unfold fX6_cell fX3_whyUnread B_X3_whyUnread_30 B_X3_whyUnread_36 B_X6_cell_39
        rw [h1, bnd_s, if_pos rfl]
        by_cases hz0 : z.toInt < 0
        · rw [if_pos (by rw [lt0]; exact hz0), bnd_s, ended_ok, bnd_s, if_neg (by decide), show flt (-13) = 3 by decide]
        · rw [if_neg (by rw [lt0]; exact hz0), gd_t (inbN hk (by omega)), nI_clamp (by omega), h2, if_neg (by rw [ltl hl]; omega), bnd_s, ended_ok, bnd_s, if_neg (by decide), show flt (-13) = 3 by decide]
      · unfold fX7_cell B_X7_cell_53 B_X7_cell_87 fX7_failedLong
        rw [noSh_y (rg4 hk), bnd_s, if_pos rfl, in_y (l02 hy), bnd_s, if_neg ne10, gd_t (inbN hk (by omega)), nI_clamp (by omega), h3, if_neg (nneg (by omega)), gd_t (inbN hk (by omega)), if_pos h4, noCell_y hk hl h3, if_neg hz, bnd_s, if_neg (by decide), noCell_y hk hl h3, if_neg hz, bnd_s, hlost, bnd_s, bnd_s, uu]
/-- the cells that were taken lie on the class's own row -/
def tkn (c : Hp) (a i n : Nat) : Hp := upC c 6 (va_cpy (c a) (c 6) i 0 n)
theorem tkn_in {a i n t : Nat} (h : t < n) : tkn c a i n 6 t = c a (i + t) := by
  unfold tkn upC va_cpy
  rw [if_pos rfl, if_pos (by omega), Nat.sub_zero]
theorem tkn_eq {a i n : Nat} : eqC c (tkn c a i n) := eqC.upC (fun j => by unfold sC; omega)
theorem tkn_07 {a i n : Nat} : tkn c a i n 0 7 = c 0 7 := by
  unfold tkn upC
  rw [if_neg (by omega)]
theorem a6 : alen tC 6 = 60 := by decide +kernel
theorem tk_ok (hSh : RSh c m) : (∃ r, r.toInt < 0 ∧ fX3_take x y z u 6 c = some (r, c) ∧ ((fX7_noSheet x m = some (1, m) ∧ r = -1) ∨ (fX7_noSheet x m = some (0, m) ∧ fX7_barred x y z u.toInt64 m = some (r, up2 m 300 0 (flt r))))) ∨ (∃ k i n, k < 4 ∧ i + n ≤ 60 ∧ x = nI k ∧ z = nI i ∧ u = nI n ∧ fX3_take x y z u 6 c = some (0, tkn c (210 + k) i n) ∧ fX7_noSheet x m = some (0, m) ∧ fX7_barred x y z u.toInt64 m = some (0, m) ∧ ∀ t, t < n → m 322 (60 * k + i + t) = c (210 + k) (i + t)) := by
  rcases untaken_ok (x := x) (y := y) hSh with ⟨r, hr, h1, h2⟩ | ⟨k, l, hk, rfl, hl, hy, h1, h2, h3, h4, h5⟩
  · have hr0 : ¬ r = 0 := fun e => by rw [e] at hr; exact absurd hr (by decide)
    refine Or.inl ⟨r, hr, ?_, ?_⟩
    · unfold fX3_take
      rw [h1, bnd_s, if_neg hr0]
    · rcases h2 with ⟨rfl, hx⟩ | ⟨k, hk, rfl, ⟨rfl, hy⟩ | ⟨hy, ⟨rfl, e⟩ | ⟨rfl, ⟨l, hl, e⟩, ne⟩⟩⟩
      · exact Or.inl ⟨noSh_n hx, rfl⟩
      · refine Or.inr ⟨noSh_y (rg4 hk), ?_⟩
        unfold fX7_barred fX7_refused
        rw [in_n (l02n hy), bnd_s, if_pos rfl, bnd_s, show flt (-2) = 0 by decide]
      · refine Or.inr ⟨noSh_y (rg4 hk), ?_⟩
        unfold fX7_barred B_X7_barred_44 fX7_failed
        rw [in_y (l02 hy), bnd_s, if_neg ne10, gd_t (inbN hk (by omega)), nI_clamp (by omega), e, if_pos (by decide), gd_t (inbN hk (by omega)), if_neg (by decide), bnd_s, show (-10 - 1 : Int32) = -11 by decide, show flt (-11) = 1 by decide]
      · refine Or.inr ⟨noSh_y (rg4 hk), ?_⟩
        unfold fX7_barred fX7_failed
        rw [in_y (l02 hy), bnd_s, if_neg ne10, gd_t (inbN hk (by omega)), nI_clamp (by omega), e, if_neg (nneg (by omega)), gd_t (inbN hk (by omega)), if_neg ne, bnd_s, show (-10 - 2 : Int32) = -12 by decide, show flt (-12) = 2 by decide]
  · have b0 : fX7_barred (nI k) y z u.toInt64 m = B_X7_barred_44 (nI k) z u.toInt64 m := by
      unfold fX7_barred
      rw [in_y (l02 hy), bnd_s, if_neg ne10, gd_t (inbN hk (by omega)), nI_clamp (by omega), h3, if_neg (nneg (by omega)), gd_t (inbN hk (by omega)), if_pos h4]
    have c0 : (0 ≤ lg_cmp u.toInt64 0) = (0 ≤ u.toInt) := by
      rw [propext (lg_cmp_ge u.toInt64 0), fa_le64, t64]
      rfl
    by_cases hu : 0 ≤ u.toInt
    · by_cases hz : 0 ≤ z.toInt ∧ 0 ≤ u.toInt ∧ z.toInt + u.toInt ≤ l
      · obtain ⟨i, hi, rfl⟩ := upN (x := z) (n := 60) (by omega) ⟨by omega, by omega⟩
        obtain ⟨n, hn, rfl⟩ := upN (x := u) (n := 60) (by omega) ⟨by omega, by omega⟩
        have hin : i + n ≤ l := by
          have h7 := hz.2.2
          rw [nI_toInt (by omega), nI_toInt (by omega)] at h7
          omega
        refine Or.inr ⟨k, i, n, hk, by omega, rfl, rfl, rfl, ?_, noSh_y (rg4 hk), ?_, fun t ht => ?_⟩
        · unfold fX3_take
          have hcp : cpok tC (210 + k) (nI i) 6 0 (nI n) = true := by
            unfold cpok
            rw [isA_41 (alS hk) (by omega), isA_41 a6 (by omega), alS hk, a6, cl0, nI_clamp (by omega), nI_clamp (by omega)]
            simp only [Bool.and_eq_true, decide_eq_true_eq]
            exact ⟨⟨⟨⟨⟨⟨trivial, trivial⟩, nneg (by omega)⟩, by decide⟩, nneg (by omega)⟩, by omega⟩, by omega⟩
          rw [h1, bnd_s, if_pos rfl, if_pos (nI_pos' (by omega)), isBeyC_ok hk hl h2, if_pos hz, bnd_s, if_pos rfl, gd_t (inbN hk (by omega)), nI_clamp (by omega), gd_t hcp]
          unfold cpy tkn
          rw [cl0, nI_clamp (by omega), nI_clamp (by omega)]
        · rw [b0]
          unfold B_X7_barred_44 B_X7_barred_96
          rw [gd_t (inbN hk (by omega)), nI_clamp (by omega), h3, if_pos (nI_pos' (by omega)), if_pos (by rw [c0]; exact hu), gd_t (inbN hk (by omega)), isBeyM_ok hl, if_pos hz, bnd_s, if_pos rfl]
        · rw [h5 (i + t) (by omega), Nat.add_assoc]
      · refine Or.inl ⟨-13, by decide, ?_, Or.inr ⟨noSh_y (rg4 hk), ?_⟩⟩
        · unfold fX3_take
          rw [h1, bnd_s, if_pos rfl, if_pos (by rw [ge0]; exact hu), isBeyC_ok hk hl h2, if_neg hz, bnd_s, if_neg ne10]
        · rw [b0]
          unfold B_X7_barred_44 B_X7_barred_96 fX7_failed
          rw [gd_t (inbN hk (by omega)), nI_clamp (by omega), h3, if_pos (nI_pos' (by omega)), if_pos (by rw [c0]; exact hu), gd_t (inbN hk (by omega)), isBeyM_ok hl, if_neg hz, bnd_s, if_neg ne10, bnd_s, show (-10 - 3 : Int32) = -13 by decide, show flt (-13) = 3 by decide]
    · refine Or.inl ⟨-14, by decide, ?_, Or.inr ⟨noSh_y (rg4 hk), ?_⟩⟩
      · unfold fX3_take
        rw [h1, bnd_s, if_pos rfl, if_neg (by rw [ge0]; exact hu)]
      · rw [b0]
        unfold B_X7_barred_44 fX7_failed
        rw [gd_t (inbN hk (by omega)), nI_clamp (by omega), h3, if_pos (nI_pos' (by omega)), if_neg (by rw [c0]; exact hu), bnd_s, show (-10 - 4 : Int32) = -14 by decide, show flt (-14) = 4 by decide]
/-! steps -/
def stp9 (f : Nat → Int32) (n : Nat) : Prop := ∀ t, t < n → 0 ≤ (f t).toInt ∧ (f t).toInt ≤ 999
theorem isRow_y {n : Nat} (h1 : 1 ≤ n) (h2 : n ≤ 40) (h : stp9 (sg 6) n) : fX6_isRowOfSteps (nI n) sg = some (1, sg) := by
  unfold fX6_isRowOfSteps
  rw [if_neg (by rw [i1, ltN (by omega) (by omega)]; omega), if_pos (by rw [i40, leN (by omega) (by omega)]; omega)]
  exact nloop (N := n) (M := 0) (fun f t => L_X6_isRowOfSteps_15 (fun (s4 : Hp) => some ((1 : Int32), s4)) (fun (s6 : Hp) => some ((0 : Int32), s6)) f (nI n) (nI t) sg) (some (1, sg))
    (fun f t _ ht => by
      simp only [L_X6_isRowOfSteps_15]
      rw [if_neg (by rw [leN (by omega) (by omega)]; omega), gd_t (inbN (by omega) (by omega)), nI_clamp (by omega), up_y (h t ht), bnd_s, if_neg ne10, nI_1])
    (fun f => by
      simp only [L_X6_isRowOfSteps_15]
      rw [if_pos (by rw [leN (by omega) (by omega)]; omega)])
    200 0 (by omega) (by omega) (by omega)
theorem first_bad {P : Nat → Prop} {n : Nat} (h : ¬ ∀ t, t < n → P t) : ∃ t, t < n ∧ ¬ P t ∧ ∀ s, s < t → P s := by
  have h2 : ∃ t, t < n ∧ ¬ P t := by
    refine Classical.byContradiction fun hc => h fun t ht => Classical.byContradiction fun hp => hc ⟨t, ht, hp⟩
  obtain ⟨t, h3, h4⟩ := pk_least (fun t => t < n ∧ ¬ P t) h2
  refine ⟨t, h3.1, h3.2, fun s hs => Classical.byContradiction fun hp => h4 s hs ⟨by omega, hp⟩⟩
theorem isRow_n {n : Nat} (hn : n ≤ 60) (h : ¬ (1 ≤ n ∧ n ≤ 40 ∧ stp9 (sg 6) n)) : fX6_isRowOfSteps (nI n) sg = some (0, sg) := by
  unfold fX6_isRowOfSteps B_X6_isRowOfSteps_11
  by_cases h1 : n < 1
  · rw [if_pos (by rw [i1, ltN (by omega) (by omega)]; exact h1)]
  · rw [if_neg (by rw [i1, ltN (by omega) (by omega)]; exact h1)]
    by_cases h2 : n ≤ 40
    · rw [if_pos (by rw [i40, leN (by omega) (by omega)]; exact h2)]
      obtain ⟨p, hp, hq, hr⟩ := first_bad (P := fun t => 0 ≤ (sg 6 t).toInt ∧ (sg 6 t).toInt ≤ 999) (n := n) (fun hh => h ⟨by omega, h2, hh⟩)
      exact nloop (N := p) (M := 0) (fun f t => L_X6_isRowOfSteps_15 (fun (s4 : Hp) => some ((1 : Int32), s4)) (fun (s6 : Hp) => some ((0 : Int32), s6)) f (nI n) (nI t) sg) (some (0, sg))
        (fun f t _ ht => by
          simp only [L_X6_isRowOfSteps_15]
          rw [if_neg (by rw [leN (by omega) (by omega)]; omega), gd_t (inbN (by omega) (by omega)), nI_clamp (by omega), up_y (hr t ht), bnd_s, if_neg ne10, nI_1])
        (fun f => by
          simp only [L_X6_isRowOfSteps_15]
          rw [if_neg (by rw [leN (by omega) (by omega)]; omega), gd_t (inbN (by omega) (by omega)), nI_clamp (by omega), up_n hq, bnd_s, if_pos rfl])
        200 0 (by omega) (by omega) (by omega)
    · rw [if_neg (by rw [i40, leN (by omega) (by omega)]; exact h2)]
theorem areSteps_y {b n : Nat} (h1 : 1 ≤ n) (h2 : n ≤ 40) (hs : stp9 (fun t => sg 322 (b + t)) n) (hb : b + n ≤ 240) : fX7_areSteps (nI b) (nI n) sg = some (1, sg) := by
  unfold fX7_areSteps
  have i1' : fX7_in (nI n).toInt64 1 40 sg = some (1, sg) := in_y (by
    rw [nI_toInt (by omega), show (1 : Int64).toInt = 1 by decide, show (40 : Int64).toInt = 40 by decide]
    omega)
  rw [i1', bnd_s]
  exact nloop (N := n) (M := 0) (fun f t => L_X7_areSteps_13 (fun (w : Int32) (s6 : Hp) => gd (b01 w) (some (w, s6))) f (nI b) (nI n) 1 (nI t) sg) (some (1, sg))
    (fun f t _ ht => by
      simp only [L_X7_areSteps_13]
      rw [if_neg (by rw [leN (by omega) (by omega)]; omega), if_neg ne10, nI_add, gd_t (inbN (by omega) (by omega)), nI_clamp (by omega), in_y (a := 0) (b := 999) (hs t ht), bnd_s, nI_1])
    (fun f => by
      simp only [L_X7_areSteps_13]
      rw [if_pos (by rw [leN (by omega) (by omega)]; omega)]
      rfl)
    200 0 (by omega) (by omega) (by omega)
theorem areSteps_n {b n : Nat} (hn : n ≤ 60) (hb : b + n ≤ 240) (h : ¬ (1 ≤ n ∧ n ≤ 40 ∧ stp9 (fun t => sg 322 (b + t)) n)) : fX7_areSteps (nI b) (nI n) sg = some (0, sg) := by
  unfold fX7_areSteps
  by_cases hr : 1 ≤ n ∧ n ≤ 40
  · have i1' : fX7_in (nI n).toInt64 1 40 sg = some (1, sg) := in_y (by
      rw [nI_toInt (by omega), show (1 : Int64).toInt = 1 by decide, show (40 : Int64).toInt = 40 by decide]
      omega)
    rw [i1', bnd_s]
    obtain ⟨p, hp, hq, hr2⟩ := first_bad (P := fun t => 0 ≤ (sg 322 (b + t)).toInt ∧ (sg 322 (b + t)).toInt ≤ 999) (n := n) (fun hh => h ⟨hr.1, hr.2, hh⟩)
    have last : ∀ f, L_X7_areSteps_13 (fun (w : Int32) (s6 : Hp) => gd (b01 w) (some (w, s6))) (f + 1) (nI b) (nI n) 0 (nI (p + 1)) sg = some (0, sg) := fun f => by
      simp only [L_X7_areSteps_13]
      split <;> rfl
    exact nloop (N := p) (M := 0) (fun f t => L_X7_areSteps_13 (fun (w : Int32) (s6 : Hp) => gd (b01 w) (some (w, s6))) (f + 1) (nI b) (nI n) 1 (nI t) sg) (some (0, sg))
      (fun f t _ ht => by
        show L_X7_areSteps_13 (fun (w : Int32) (s6 : Hp) => gd (b01 w) (some (w, s6))) (f + 1 + 1) (nI b) (nI n) 1 (nI t) sg = _
        rw [L_X7_areSteps_13]
        rw [if_neg (by rw [leN (by omega) (by omega)]; omega), if_neg ne10, nI_add, gd_t (inbN (by omega) (by omega)), nI_clamp (by omega), in_y (a := 0) (b := 999) (hr2 t ht), bnd_s, nI_1])
      (fun f => by
        show L_X7_areSteps_13 (fun (w : Int32) (s6 : Hp) => gd (b01 w) (some (w, s6))) (f + 1 + 1) (nI b) (nI n) 1 (nI p) sg = _
        rw [L_X7_areSteps_13]
        rw [if_neg (by rw [leN (by omega) (by omega)]; omega), if_neg ne10, nI_add, gd_t (inbN (by omega) (by omega)), nI_clamp (by omega), in_n (a := 0) (b := 999) hq, bnd_s, nI_1]
        exact last f)
      199 0 (by omega) (by omega) (by omega)
  · have i1' : fX7_in (nI n).toInt64 1 40 sg = some (0, sg) := in_n (by
      rw [nI_toInt (by omega), show (1 : Int64).toInt = 1 by decide, show (40 : Int64).toInt = 40 by decide]
      omega)
    rw [i1', bnd_s]
    show L_X7_areSteps_13 (fun (w : Int32) (s6 : Hp) => gd (b01 w) (some (w, s6))) (199 + 1) (nI b) (nI n) 0 0 sg = _
    rw [L_X7_areSteps_13]
    split <;> rfl
theorem steps_in {k : Hp → Option (Int32 × Hp)} {b n n0 : Nat} (hn0 : n0 < 24) (hq : sg 300 1 = nI n0) (h1 : 1 ≤ n) (hn : n ≤ 60) (hb : b + n ≤ 240) : L_X7_steps_88 k 200 (nI n) (nI b) 1 (filM sg n0 (sSteps (fun t => sg 322 (b + t)) n) 1) = k (filM sg n0 (sSteps (fun t => sg 322 (b + t)) n) 41) :=
  nloop (N := 41) (M := 1) (fun f t => L_X7_steps_88 k f (nI n) (nI b) (nI t) (filM sg n0 (sSteps (fun t => sg 322 (b + t)) n) t)) (k (filM sg n0 (sSteps (fun t => sg 322 (b + t)) n) 41))
    (fun f t h9 ht => by
      have e2 : nI b + nI (min t n) - 1 = nI (b + (min t n - 1)) := by rw [nI_add, subN1 (by omega)]; congr 1; omega
      simp only [L_X7_steps_88]
      rw [if_neg (nlt41 ht), filM_o (by omega), hq, subN1 h9, of_ok (by omega) (by omega), bnd_s, lesser_ok, bnd_s, mnN (by omega) (by omega), e2, gd_t (inbN (by omega) (by omega)), nI_clamp (by omega), filM_o (by omega), set_ok (by omega) ht, bnd_s, nI_1, filM_in (by omega) (by omega) (by omega), filM_up]
      obtain ⟨w, rfl⟩ : ∃ w, t = w + 1 := ⟨t - 1, by omega⟩
      rfl)
    (fun f => by
      simp only [L_X7_steps_88]
      rw [if_pos p41])
    200 1 (by omega) (by omega) (by omega)
theorem ok_steps {f : Nat → Int32} {n : Nat} (h1 : 1 ≤ n) (h : stp9 f n) : okRow (sSteps f n) := by
  have key : ∀ t, t < 41 → 0 ≤ (sSteps f n t).toInt ∧ (sSteps f n t).toInt ≤ 99999 := by
    intro t
    induction t with
    | zero => intro _; show 0 ≤ (0 : Int32).toInt ∧ (0 : Int32).toInt ≤ 99999; decide
    | succ t ih =>
      intro ht
      have h2 := ih (by omega)
      have h3 := h (min (t + 1) n - 1) (by omega)
      show 0 ≤ (mnI _ 99999).toInt ∧ (mnI _ 99999).toInt ≤ 99999
      rw [mnI_i, add_i h2 (by omega), ti99]
      omega
  refine ⟨rfl, key, fun t ht => ?_⟩
  have h2 := key t (by omega)
  have h3 := h (min (t + 1) n - 1) (by omega)
  show _ ≤ (mnI _ 99999).toInt
  rw [mnI_i, add_i h2 (by omega), ti99]
  omega
theorem sSteps_cong {f g : Nat → Int32} {n : Nat} (h1 : 1 ≤ n) (h : ∀ t, t < n → f t = g t) : ∀ t, sSteps f n t = sSteps g n t
  | 0 => rfl
  | t + 1 => by
    show mnI (sSteps f n t + f (min (t + 1) n - 1)) 99999 = mnI (sSteps g n t + g (min (t + 1) n - 1)) 99999
    rw [sSteps_cong h1 h t, h _ (by omega)]
theorem Rel0_fault {n : Nat} {a b : Int32} (h : Rel0 c m n) : Rel0 (up2 c 0 8 a) (up2 m 300 0 b) n := Rel0_keep (eqC.up (by unfold sC; omega)) (eqM.up (by unfold sM; omega)) h
/-- a new stair behind scratch changes, and what the call tells -/
theorem nw_end2 {c2 m2 : Hp} {n k0 : Nat} {F : Nat → Int32} (hn : n < 24) (h0 : Rel0 c m n) (hc : eqC c c2) (hm : eqM m m2) (ht : c2 0 7 = m2 300 24) (hk : k0 < 3) (hF : okRow F) : Rel (up2 (up2 (up2 (fil c2 (100 + n) F 41) 9 n (nI k0)) 1 2 (nI (n + 1))) 0 8 0) (up2 (up2 (up2 (filM m2 n F 41) 302 n (nI k0)) 300 1 (nI (n + 1))) 300 0 0) := by
  refine ⟨⟨n + 1, Rel0_fault (Rel0_new hn hk hF (Rel0_keep hc hm h0))⟩, ?_, ?_⟩
  · rw [up2_o (by omega), up2_o (by omega), up2_o (by omega), fil_out (by omega), up2_o (by omega), up2_o (by omega), up2_o (by omega), filM_o (by omega)]
    exact ht
  · rw [up2_s, up2_s]
theorem neg0 {r : Int32} (h : r.toInt < 0) : ¬ r = 0 := fun e => by rw [e] at h; exact absurd h (by decide)
theorem negle {r : Int32} (h : r.toInt < 0) : ¬ 0 ≤ r := by rw [fa_le, ti0]; omega
theorem steps_st (h : Rel c m) : Sim (fX6_steps x y z u) (fX7_steps x y z u) c m := by
  have hR := h
  obtain ⟨⟨n, h0⟩, hT, hF⟩ := h
  obtain ⟨h1, h2, h3, h4⟩ := h0.1
  rcases tk_ok (x := x) (y := y) (z := z) (u := u) h0.2.1 with ⟨r, hr, e1, e2⟩ | ⟨k, i, q, hk, hiq, rfl, rfl, rfl, e1, e2, e3, e4⟩
  · refine ⟨r, up2 c 0 8 (flt r), up2 m 300 0 (flt r), ?_, ?_, Rel_fault hR⟩
    · unfold fX6_steps fX6_stepsOf
      rw [e1, bnd_s, if_neg (neg0 hr), bnd_s, ended_ok, bnd_s]
    · unfold fX7_steps fX7_refused
      rcases e2 with ⟨e2, rfl⟩ | ⟨e2, e3⟩
      · rw [e2, bnd_s, if_neg ne10, bnd_s, show flt (-1) = 0 by decide]
      · rw [e2, bnd_s, if_pos rfl, e3, bnd_s, if_neg (negle hr)]
  · have efr : (60 : Int32) * nI k + nI i = nI (60 * k + i) := ix60
    have hrow : ∀ t, t < q → m 322 (60 * k + i + t) = tkn c (210 + k) i q 6 t := fun t ht => by rw [tkn_in ht]; exact e4 t ht
    have hs2 : (tkn c (210 + k) i q) 1 2 = nI n := by rw [tkn_eq 1 2 (by unfold sC; omega)]; exact h2
    by_cases hs : 1 ≤ q ∧ q ≤ 40 ∧ stp9 (tkn c (210 + k) i q 6) q
    · obtain ⟨s1, s2, s3⟩ := hs
      have s4 : stp9 (fun t => m 322 (60 * k + i + t)) q := fun t ht => by
        show 0 ≤ (m 322 (60 * k + i + t)).toInt ∧ (m 322 (60 * k + i + t)).toInt ≤ 999
        rw [hrow t ht]; exact s3 t ht
      by_cases hn : n < 24
      · have ecg : filM m n (sSteps (fun t => m 322 (60 * k + i + t)) q) 41 = filM m n (sSteps (tkn c (210 + k) i q 6) q) 41 := filM_cong (fun j _ => sSteps_cong s1 hrow j)
        refine ⟨nI n, _, _, ?_, ?_, nw_end2 (k0 := 0) hn h0 (tkn_eq (a := 210 + k) (i := i) (n := q)) eqM.r (by rw [tkn_07]; exact hT) (by omega) (ok_steps s1 s3)⟩
        · unfold fX6_steps fX6_stepsOf
          rw [e1, bnd_s, if_pos rfl, isRow_y s1 s2 s3, bnd_s, if_neg ne10, full_y hs2 hn, bnd_s, if_pos rfl, nextRow_ok hs2 hn, bnd_s, fillSteps_ok s1 (show q ≤ 60 by omega) (by omega) a6 (alC hn) (by omega), bnd_s, keepNext_ok (by rw [fil_out (by omega)]; exact hs2) hn, bnd_s, bnd_s, ended_ok, bnd_s]
          have : flt (nI n) = 0 := by unfold flt; rw [if_neg (by rw [nI_toInt (by omega)]; omega)]
          rw [this]
          rfl
        · unfold fX7_steps fX7_refused
          rw [e2, bnd_s, if_pos rfl, e3, bnd_s, if_pos (by decide), efr, areSteps_y s1 s2 s4 (by omega), bnd_s, if_neg ne10, if_neg (f24_y h3 hn), h3, i0, z64, set_ok (by omega) (by omega), bnd_s, Nat.add_zero, mn0]
          have e0 : up2 m 303 (41 * n) 0 = filM m n (sSteps (fun t => m 322 (60 * k + i + t)) q) 1 := by
            have := filM_up (sg := m) (f := n) (F := sSteps (fun t => m 322 (60 * k + i + t)) q) (t := 0) (x := 0) rfl
            rw [filM_0, Nat.add_zero] at this
            exact this
          rw [e0, steps_in hn h3 s1 (by omega) (by omega), keep_ok (by rw [filM_o (by omega)]; exact h3) hn, bnd_s, bnd_s, ecg]
      · refine ⟨-4, up2 (tkn c (210 + k) i q) 0 8 0, up2 m 300 0 0, ?_, ?_, Rel_end (tkn_eq.t (eqC.up (by unfold sC; omega))) (eqM.up (by unfold sM; omega)) h0 ?_ (by rw [up2_s, up2_s])⟩
        · unfold fX6_steps fX6_stepsOf
          rw [e1, bnd_s, if_pos rfl, isRow_y s1 s2 s3, bnd_s, if_neg ne10, full_n hs2 h1 hn, bnd_s, if_neg ne10, bnd_s, ended_ok, bnd_s, show flt (-4) = 0 by decide]
        · unfold fX7_steps fX7_refused
          rw [e2, bnd_s, if_pos rfl, e3, bnd_s, if_pos (by decide), efr, areSteps_y s1 s2 s4 (by omega), bnd_s, if_neg ne10, if_pos (f24_n h3 h1 hn), bnd_s]
        · rw [up2_o (by omega), up2_o (by omega)]
          unfold tkn upC
          rw [if_neg (by omega)]
          exact hT
    · refine ⟨-2, up2 (tkn c (210 + k) i q) 0 8 0, up2 m 300 0 0, ?_, ?_, Rel_end (tkn_eq.t (eqC.up (by unfold sC; omega))) (eqM.up (by unfold sM; omega)) h0 ?_ (by rw [up2_s, up2_s])⟩
      · unfold fX6_steps fX6_stepsOf
        rw [e1, bnd_s, if_pos rfl, isRow_n (by omega) hs, bnd_s, if_pos rfl, bnd_s, ended_ok, bnd_s, show flt (-2) = 0 by decide]
      · unfold fX7_steps fX7_refused
        rw [e2, bnd_s, if_pos rfl, e3, bnd_s, if_pos (by decide), efr, areSteps_n (by omega) (by omega) (fun q2 => hs ⟨q2.1, q2.2.1, fun t ht => by rw [← hrow t ht]; exact q2.2.2 t ht⟩), bnd_s, if_pos rfl, bnd_s]
      · rw [up2_o (by omega), up2_o (by omega)]
        unfold tkn upC
        rw [if_neg (by omega)]
        exact hT
end A5
