/-! sheets -/
def seg (sg : Hp) (b base : Nat) (F : Nat → Int32) (t : Nat) : Hp := fun q j => if q = b ∧ base ≤ j ∧ j < base + t then F (j - base) else sg q j
theorem seg_0 {sg : Hp} {b base : Nat} {F : Nat → Int32} : seg sg b base F 0 = sg := by
  funext q j
  unfold seg
  rw [if_neg]
  omega
theorem seg_up {sg : Hp} {b base : Nat} {F : Nat → Int32} {t : Nat} {x : Int32} (h : x = F t) : up2 (seg sg b base F t) b (base + t) x = seg sg b base F (t + 1) := by
  funext q j
  rw [up2_at]
  unfold seg
  by_cases hb : q = b
  · by_cases hj : j = base + t
    · rw [if_pos ⟨hb, hj⟩, if_pos (by omega), h, hj, show base + t - base = t by omega]
    · rw [if_neg (by omega)]
      by_cases h1 : base ≤ j ∧ j < base + t
      · rw [if_pos (by omega), if_pos (by omega)]
      · rw [if_neg (by omega), if_neg (by omega)]
  · rw [if_neg (by omega), if_neg (by omega), if_neg (by omega)]
theorem seg_in {sg : Hp} {b base : Nat} {F : Nat → Int32} {n t : Nat} (h : t < n) : seg sg b base F n b (base + t) = F t := by
  unfold seg
  rw [if_pos (by omega), show base + t - base = t by omega]
theorem seg_out {sg : Hp} {b base q j : Nat} {F : Nat → Int32} {n : Nat} (h : ¬ (q = b ∧ base ≤ j ∧ j < base + n)) : seg sg b base F n q j = sg q j := by
  unfold seg
  rw [if_neg h]
section A4
variable {sg c m : Hp} {x y z u v : Int32}
theorem alS {k : Nat} (h : k < 4) : alen tC (210 + k) = 60 := by
  have : ∀ i, i < 4 → alen tC (210 + i) = 60 := by decide +kernel
  exact this k h
theorem Rel_sheets {d k : Hp} (h : Rel c m) (hc : ∀ b j, ¬ uSh b → ¬ sC b j → d b j = c b j) (hm : ∀ b j, ¬ vSh b j → ¬ sM b j → k b j = m b j) (hs : RSh d k) (ht : d 0 7 = k 300 24) (hf : d 0 8 = k 300 0) : Rel d k := by
  obtain ⟨⟨n, h1, h2, h3, h4⟩, -⟩ := h
  refine ⟨⟨n, RSt_cg (fun b j hb => hc b j (by unfold uSt at hb; unfold uSh; omega) (by unfold uSt at hb; unfold sC; omega)) (fun b j hb => hm b j (by unfold vSt at hb; unfold vSh; omega) (by unfold vSt at hb; unfold sM; omega)) h1, hs, RSe_cg (fun b j hb => hc b j (by unfold uSe at hb; unfold uSh; omega) (by unfold uSe at hb; unfold sC; omega)) (fun b j hb => hm b j (by unfold vSe at hb; unfold vSh; omega) (by unfold vSe at hb; unfold sM; omega)) h3, RNt_cg h1.1 (fun b j hb => hc b j (by unfold uNt at hb; unfold uSh; omega) (by unfold uNt at hb; unfold sC; omega)) (fun b j hb => hm b j (by unfold vNt at hb; unfold vSh; omega) (by unfold vNt at hb; unfold sM; omega)) h4⟩, ht, hf⟩
theorem noSh_y (hx : 0 ≤ x.toInt ∧ x.toInt < 4) : fX7_noSheet x sg = some (0, sg) := by rw [noSheet_ok, if_pos hx]
theorem noSh_n (hx : ¬ (0 ≤ x.toInt ∧ x.toInt < 4)) : fX7_noSheet x sg = some (1, sg) := by rw [noSheet_ok, if_neg hx]
theorem shH_y (hx : 0 ≤ x.toInt ∧ x.toInt < 4) : fX3_has x sg = some (1, sg) := by rw [shHas_ok, if_pos hx]
theorem shH_n (hx : ¬ (0 ≤ x.toInt ∧ x.toInt < 4)) : fX3_has x sg = some (0, sg) := by rw [shHas_ok, if_neg hx]
theorem lane_y (hx : 0 ≤ x.toInt ∧ x.toInt < 3) : fX3_isLane x sg = some (1, sg) := by rw [isLane_ok, if_pos hx]
theorem lane_n (hx : ¬ (0 ≤ x.toInt ∧ x.toInt < 3)) : fX3_isLane x sg = some (0, sg) := by rw [isLane_ok, if_neg hx]
theorem rg4 {k : Nat} (h : k < 4) : 0 ≤ (nI k).toInt ∧ (nI k).toInt < 4 := rgN (n := 4) h (by omega)
theorem i60 : (60 : Int32) = nI 60 := rfl
theorem ix60 {k i : Nat} : (60 : Int32) * nI k + nI i = nI (60 * k + i) := by rw [i60, pk_mul, nI_add]
theorem sheet_in {k : Hp → Option (Int32 × Hp)} {q n : Nat} (hq : q < 4) (hn : n ≤ 60) : L_X7_sheet_65 k 200 (nI q) (nI n) 0 sg = k (seg sg 322 (60 * q) (fun _ => 0) n) := by
  have key := nloop (N := n) (M := 0) (fun f t => L_X7_sheet_65 k f (nI q) (nI n) (nI t) (seg sg 322 (60 * q) (fun _ => 0) t)) (k (seg sg 322 (60 * q) (fun _ => 0) n))
    (fun f t _ ht => by
      simp only [L_X7_sheet_65]
      rw [if_neg (by rw [leN (by omega) (by omega)]; omega), ix60, gd_t (inbN (by omega) (by omega)), nI_clamp (by omega), nI_1, seg_up rfl])
    (fun f => by
      simp only [L_X7_sheet_65]
      rw [if_pos (by rw [leN (by omega) (by omega)]; omega)])
    200 0 (by omega) (by omega) (by omega)
  rw [seg_0] at key
  exact key
theorem le60 : (x ≤ 60) = (x.toInt ≤ 60) := by rw [fa_le]; rfl
theorem ge0 : (0 ≤ x) = (0 ≤ x.toInt) := by rw [fa_le]; rfl
theorem sheet_st (h : Rel c m) : Sim (fX6_sheet x y z) (fX7_sheet x y z) c m := by
  have hR := h
  obtain ⟨⟨n, hSt, hSh, hSe, hNt⟩, hT, hF⟩ := h
  rcases arg_cases x (n := 4) (by omega) with ⟨k, hk, rfl⟩ | hx
  · by_cases hy : 0 ≤ y.toInt ∧ y.toInt < 3
    · have hy2 : (0 : Int64).toInt ≤ y.toInt ∧ y.toInt ≤ (2 : Int64).toInt := by
        rw [show (0 : Int64).toInt = 0 by decide, show (2 : Int64).toInt = 2 by decide]
        omega
      by_cases hz : z.toInt ≤ 60
      · by_cases hz0 : 0 ≤ z.toInt
        · obtain ⟨l, hl, rfl⟩ := upN (n := 60) (by omega) ⟨hz0, hz⟩
          refine ⟨1, up2 (up2 (up2 (fil c (210 + k) (fun _ => 0) 60) 25 k (nI l)) 26 k y) 0 8 0, up2 (seg (up2 (up2 m 320 k (nI l)) 321 k y) 322 (60 * k) (fun _ => 0) l) 300 0 0, ?_, ?_, ?_⟩
          · unfold fX6_sheet fX3_renew
            rw [shH_y (rg4 hk), bnd_s, if_neg ne10, lane_y hy, bnd_s, if_neg ne10, if_pos (by rw [le60]; exact hz), if_pos (by rw [ge0]; exact hz0), gd_t (inbN hk (by omega)), nI_clamp (by omega), jfill_ok (alS hk) (by omega) (by omega), bnd_s, gd_t (inbN hk (by omega)), gd_t (inbN hk (by omega)), bnd_s, ended_ok, bnd_s, show flt 1 = 0 by decide]
          · unfold fX7_sheet fX7_refused
            rw [noSh_y (rg4 hk), bnd_s, if_pos rfl, in_y hy2, bnd_s, if_neg ne10, if_pos (by rw [le60]; exact hz), if_pos (by rw [ge0]; exact hz0), gd_t (inbN hk (by omega)), gd_t (inbN hk (by omega)), nI_clamp (by omega), sheet_in hk hl, bnd_s]
          · refine Rel_sheets hR (fun b j h1 h2 => ?_) (fun b j h1 h2 => ?_) (fun q hq => ?_) ?_ ?_
            · unfold uSh at h1
              unfold sC at h2
              rw [up2_o (by omega), up2_o (by omega), up2_o (by omega), fil_out (by omega)]
            · unfold vSh at h1
              unfold sM at h2
              rw [up2_o (by omega), seg_out (by omega), up2_o (by omega), up2_o (by omega)]
            · by_cases e : q = k
              · subst e
                refine ⟨Or.inr ⟨l, hl, ?_, ?_, fun i hi => ?_⟩, ?_⟩
                · rw [up2_o (by omega), up2_o (by omega), up2_s]
                · rw [up2_o (by omega), seg_out (by omega), up2_o (by omega), up2_s]
                · rw [up2_o (by omega), up2_o (by omega), up2_o (by omega), fil_in (by omega), up2_o (by omega), seg_in hi]
                · rw [up2_o (by omega), up2_s, up2_o (by omega), seg_out (by omega), up2_s]
              · obtain ⟨s1, s2⟩ := hSh q hq
                rw [up2_o (by omega), up2_o (by omega), up2_o (by omega), fil_out (by omega), up2_o (by omega), seg_out (by omega), up2_o (by omega), up2_o (by omega), up2_o (by omega), up2_o (by omega), up2_o (by omega), fil_out (by omega), up2_o (by omega), seg_out (by omega), up2_o (by omega), up2_o (by omega)]
                refine ⟨?_, s2⟩
                rcases s1 with s1 | ⟨l2, t1, t2, t3, t4⟩
                · exact Or.inl s1
                · refine Or.inr ⟨l2, t1, t2, t3, fun i hi => ?_⟩
                  rw [up2_o (by omega), up2_o (by omega), up2_o (by omega), fil_out (by omega), up2_o (by omega), seg_out (by omega), up2_o (by omega), up2_o (by omega)]
                  exact t4 i hi
            · rw [up2_o (by omega), up2_o (by omega), up2_o (by omega), fil_out (by omega), up2_o (by omega), seg_out (by omega), up2_o (by omega), up2_o (by omega)]
              exact hT
            · rw [up2_s, up2_s]
        · refine ⟨-14, _, _, ?_, ?_, Rel_fault (v := 4) hR⟩
          · unfold fX6_sheet fX3_renew
            rw [shH_y (rg4 hk), bnd_s, if_neg ne10, lane_y hy, bnd_s, if_neg ne10, if_pos (by rw [le60]; exact hz), if_neg (by rw [ge0]; exact hz0), bnd_s, ended_ok, bnd_s, show flt (-14) = 4 by decide]
          · unfold fX7_sheet fX7_failed
            rw [noSh_y (rg4 hk), bnd_s, if_pos rfl, in_y hy2, bnd_s, if_neg ne10, if_pos (by rw [le60]; exact hz), if_neg (by rw [ge0]; exact hz0), bnd_s, show (-10 - 4 : Int32) = -14 by decide]
      · refine ⟨-2, _, _, ?_, ?_, Rel_fault (v := 0) hR⟩
        · unfold fX6_sheet fX3_renew B_X3_renew_24
          rw [shH_y (rg4 hk), bnd_s, if_neg ne10, lane_y hy, bnd_s, if_neg ne10, if_neg (by rw [le60]; exact hz), bnd_s, ended_ok, bnd_s, show flt (-2) = 0 by decide]
        · unfold fX7_sheet B_X7_sheet_31 fX7_refused
          rw [noSh_y (rg4 hk), bnd_s, if_pos rfl, in_y hy2, bnd_s, if_neg ne10, if_neg (by rw [le60]; exact hz), bnd_s]
    · have hy2 : ¬ ((0 : Int64).toInt ≤ y.toInt ∧ y.toInt ≤ (2 : Int64).toInt) := by
        rw [show (0 : Int64).toInt = 0 by decide, show (2 : Int64).toInt = 2 by decide]
        omega
      refine ⟨-2, _, _, ?_, ?_, Rel_fault (v := 0) hR⟩
      · unfold fX6_sheet fX3_renew B_X3_renew_24
        rw [shH_y (rg4 hk), bnd_s, if_neg ne10, lane_n hy, bnd_s, if_pos rfl, bnd_s, ended_ok, bnd_s, show flt (-2) = 0 by decide]
      · unfold fX7_sheet B_X7_sheet_31 fX7_refused
        rw [noSh_y (rg4 hk), bnd_s, if_pos rfl, in_n hy2, bnd_s, if_pos rfl, bnd_s]
  · refine ⟨-1, _, _, ?_, ?_, Rel_fault (v := 0) hR⟩
    · unfold fX6_sheet fX3_renew
      rw [shH_n hx, bnd_s, if_pos rfl, bnd_s, ended_ok, bnd_s, show flt (-1) = 0 by decide]
    · unfold fX7_sheet fX7_refused
      rw [noSh_n hx, bnd_s, if_neg ne10, bnd_s]
theorem nm1 {n : Nat} (h : n < 1000000) : ¬ nI n = -1 := by
  rw [fa_eq, nI_toInt (by omega)]
  have : (-1 : Int32).toInt = -1 := by decide
  omega
theorem lose_st (h : Rel c m) : Sim (fX6_lose x) (fX7_lose x) c m := by
  have hR := h
  obtain ⟨⟨n, hSt, hSh, hSe, hNt⟩, hT, hF⟩ := h
  rcases arg_cases x (n := 4) (by omega) with ⟨k, hk, rfl⟩ | hx
  · have hrel : Rel (up2 c 25 k (-1)) (up2 m 320 k (-1)) := by
      refine Rel_sheets hR (fun b j h1 h2 => ?_) (fun b j h1 h2 => ?_) (fun q hq => ?_) ?_ ?_
      · unfold uSh at h1; rw [up2_o (by omega)]
      · unfold vSh at h1; rw [up2_o (by omega)]
      · obtain ⟨s1, s2⟩ := hSh q hq
        by_cases e : q = k
        · subst e
          exact ⟨Or.inl ⟨by rw [up2_s], by rw [up2_s]⟩, by rw [up2_o (by omega), up2_o (by omega)]; exact s2⟩
        · rw [up2_o (by omega), up2_o (by omega), up2_o (by omega), up2_o (by omega)]
          refine ⟨?_, s2⟩
          rcases s1 with s1 | ⟨l2, t1, t2, t3, t4⟩
          · exact Or.inl s1
          · refine Or.inr ⟨l2, t1, t2, t3, fun i hi => ?_⟩
            rw [up2_o (by omega), up2_o (by omega)]
            exact t4 i hi
      · rw [up2_o (by omega), up2_o (by omega)]; exact hT
      · rw [up2_o (by omega), up2_o (by omega)]; exact hF
    rcases (hSh k hk).1 with ⟨s1, s2⟩ | ⟨l, t1, t2, t3, t4⟩
    · refine ⟨0, _, _, ?_, ?_, hrel⟩
      · unfold fX6_lose fX3_drop B_X3_drop_15
        rw [shH_y (rg4 hk), bnd_s, if_neg ne10, gd_t (inbN hk (by omega)), nI_clamp (by omega), s1, if_pos rfl, gd_t (inbN hk (by omega)), bnd_s]
      · unfold fX7_lose B_X7_lose_23
        rw [noSh_y (rg4 hk), bnd_s, if_pos rfl, gd_t (inbN hk (by omega)), nI_clamp (by omega), s2, if_neg (by decide), gd_t (inbN hk (by omega))]
    · refine ⟨1, _, _, ?_, ?_, hrel⟩
      · unfold fX6_lose fX3_drop B_X3_drop_15
        rw [shH_y (rg4 hk), bnd_s, if_neg ne10, gd_t (inbN hk (by omega)), nI_clamp (by omega), t2, if_neg (nm1 (by omega)), gd_t (inbN hk (by omega)), bnd_s]
      · unfold fX7_lose B_X7_lose_23
        rw [noSh_y (rg4 hk), bnd_s, if_pos rfl, gd_t (inbN hk (by omega)), nI_clamp (by omega), t3, if_pos (nI_pos' (by omega)), gd_t (inbN hk (by omega))]
  · refine ⟨-1, c, m, ?_, ?_, hR⟩
    · unfold fX6_lose
      rw [shH_n hx, bnd_s, if_pos rfl]
    · unfold fX7_lose
      rw [noSh_n hx, bnd_s, if_neg ne10]
def cutI (v lane : Int32) : Int32 := if lane = 0 then v.toInt8.toInt32 else if lane = 1 then v.toInt16.toInt32 else v
theorem cut_ok : fX3_cut v y sg = some (cutI v y, sg) := by
  unfold fX3_cut B_X3_cut_18 cutI
  by_cases h : y = 0
  · rw [if_pos h, if_pos h]
  · rw [if_neg h, if_neg h]
    by_cases h1 : y = 1
    · rw [if_pos h1, if_pos h1]
    · rw [if_neg h1, if_neg h1]
theorem noCell_n {k : Nat} (hk : k < 4) (h : sg 320 k = -1) : fX7_noCell (nI k) y sg = some (1, sg) := by
  unfold fX7_noCell B_X7_noCell_36
  rw [gd_t (inbN hk (by omega)), nI_clamp (by omega), h, if_neg (by decide)]
theorem noCell_y {k l : Nat} (hk : k < 4) (hl : l ≤ 60) (h : sg 320 k = nI l) : fX7_noCell (nI k) y sg = some (if 0 ≤ y.toInt ∧ y.toInt < l then 0 else 3, sg) := by
  unfold fX7_noCell B_X7_noCell_36
  rw [gd_t (inbN hk (by omega)), nI_clamp (by omega), h, if_pos (nI_pos' (by omega)), gd_t (inbN hk (by omega)), in_ok, cnt64 (by omega), t64, show (0 : Int64).toInt = 0 by decide, bnd_s]
  by_cases h1 : 0 ≤ y.toInt ∧ y.toInt < l
  · rw [if_pos h1, if_pos (show 0 ≤ y.toInt ∧ y.toInt ≤ (l : Int) - 1 by omega), if_neg ne10]
  · rw [if_neg h1, if_neg (show ¬ (0 ≤ y.toInt ∧ y.toInt ≤ (l : Int) - 1) by omega), if_pos rfl]
theorem ltl {l : Nat} (hl : l ≤ 60) : (y < nI l) = (y.toInt < l) := by rw [fa_lt, nI_toInt (by omega)]
theorem lt0 : (y < 0) = (y.toInt < 0) := by rw [fa_lt, ti0]
theorem put_st (h : Rel c m) : Sim (fX6_put x y v) (fX7_put x y v) c m := by
  have hR := h
  obtain ⟨⟨n, hSt, hSh, hSe, hNt⟩, hT, hF⟩ := h
  rcases arg_cases x (n := 4) (by omega) with ⟨k, hk, rfl⟩ | hx
  · obtain ⟨s0, sl⟩ := hSh k hk
    rcases s0 with ⟨s1, s2⟩ | ⟨l, t1, t2, t3, t4⟩
    · refine ⟨-11, _, _, ?_, ?_, Rel_fault (v := 1) hR⟩
      · unfold fX6_put fX3_write
        rw [shH_y (rg4 hk), bnd_s, if_neg ne10, gd_t (inbN hk (by omega)), nI_clamp (by omega), s1, if_pos rfl, bnd_s, ended_ok, bnd_s, show flt (-11) = 1 by decide]
      · unfold fX7_put fX7_failed
        rw [noSh_y (rg4 hk), bnd_s, if_pos rfl, noCell_n hk s2, bnd_s, if_neg (by decide), noCell_n hk s2, bnd_s, bnd_s, show (-10 - 1 : Int32) = -11 by decide]
    · rcases arg_cases y (n := l) (by omega) with ⟨i, hi, rfl⟩ | hy
      · refine ⟨1, up2 (up2 c (210 + k) i (cutI v (c 26 k))) 0 8 0, up2 (up2 m 322 (60 * k + i) (cutI v (c 26 k))) 300 0 0, ?_, ?_, ?_⟩
        · unfold fX6_put fX3_write
          rw [shH_y (rg4 hk), bnd_s, if_neg ne10, gd_t (inbN hk (by omega)), nI_clamp (by omega), t2, if_neg (nm1 (by omega)), if_neg (nneg (by omega)), gd_t (inbN hk (by omega)), if_pos (by rw [ltN (by omega) (by omega)]; exact hi), gd_t (inbN hk (by omega)), gd_t (inbN hk (by omega)), cut_ok, bnd_s, alS hk, gd_t (inbN (by omega) (by omega)), nI_clamp (by omega), bnd_s, ended_ok, bnd_s, show flt 1 = 0 by decide]
        · unfold fX7_put B_X7_put_73 fX7_refused
          rw [noSh_y (rg4 hk), bnd_s, if_pos rfl, noCell_y hk t1 t3, if_pos (rgN hi (by omega)), bnd_s, if_pos (by decide), gd_t (inbN hk (by omega)), nI_clamp (by omega), ← sl, ix60]
          unfold cutI
          by_cases e0 : c 26 k = 0
          · rw [if_pos e0, if_pos e0, gd_t (inbN (by omega) (by omega)), nI_clamp (by omega), bnd_s]
          · rw [if_neg e0, if_neg e0, gd_t (inbN hk (by omega))]
            by_cases e1 : c 26 k = 1
            · rw [if_pos e1, if_pos e1, gd_t (inbN (by omega) (by omega)), nI_clamp (by omega), bnd_s]
            · rw [if_neg e1, if_neg e1, gd_t (inbN (by omega) (by omega)), nI_clamp (by omega), bnd_s]
        · refine Rel_sheets hR (fun b j h1 h2 => ?_) (fun b j h1 h2 => ?_) (fun q hq => ?_) ?_ ?_
          · unfold uSh at h1; unfold sC at h2; rw [up2_o (by omega), up2_o (by omega)]
          · unfold vSh at h1; unfold sM at h2; rw [up2_o (by omega), up2_o (by omega)]
          · obtain ⟨s1, s2⟩ := hSh q hq
            rw [up2_o (by omega), up2_o (by omega), up2_o (by omega), up2_o (by omega), up2_o (by omega), up2_o (by omega), up2_o (by omega), up2_o (by omega)]
            refine ⟨?_, s2⟩
            rcases s1 with s1 | ⟨l2, u1, u2, u3, u4⟩
            · exact Or.inl s1
            · refine Or.inr ⟨l2, u1, u2, u3, fun i2 hi2 => ?_⟩
              rw [up2_o (by omega), up2_o (b := 322) (j := 60 * q + i2) (c := 300) (by omega)]
              by_cases e : q = k ∧ i2 = i
              · rw [e.1, e.2, up2_s, up2_s]
              · rw [up2_o (by omega), up2_o (by omega)]
                exact u4 i2 hi2
          · rw [up2_o (by omega), up2_o (by omega), up2_o (by omega), up2_o (by omega)]; exact hT
          · rw [up2_s, up2_s]
      · refine ⟨-13, _, _, ?_, ?_, Rel_fault (v := 3) hR⟩
        · unfold fX6_put fX3_write B_X3_write_37
          rw [shH_y (rg4 hk), bnd_s, if_neg ne10, gd_t (inbN hk (by omega)), nI_clamp (by omega), t2, if_neg (nm1 (by omega))]
          by_cases hy0 : y.toInt < 0
          · rw [if_pos (by rw [lt0]; exact hy0), bnd_s, ended_ok, bnd_s, show flt (-13) = 3 by decide]
          · rw [if_neg (by rw [lt0]; exact hy0), gd_t (inbN hk (by omega)), if_neg (by rw [ltl t1]; omega), bnd_s, ended_ok, bnd_s, show flt (-13) = 3 by decide]
        · unfold fX7_put fX7_failed
          rw [noSh_y (rg4 hk), bnd_s, if_pos rfl, noCell_y hk t1 t3, if_neg hy, bnd_s, if_neg (by decide), noCell_y hk t1 t3, if_neg hy, bnd_s, bnd_s, show (-10 - 3 : Int32) = -13 by decide]
  · refine ⟨-1, _, _, ?_, ?_, Rel_fault (v := 0) hR⟩
    · unfold fX6_put fX3_write
      rw [shH_n hx, bnd_s, if_pos rfl, bnd_s, ended_ok, bnd_s, show flt (-1) = 0 by decide]
    · unfold fX7_put fX7_refused
      rw [noSh_n hx, bnd_s, if_neg ne10, bnd_s]
/-- why cells of a sheet can't be taken as a row of a lane: both sides say the same -/
theorem untaken_ok (hSh : RSh c m) : (∃ r, r.toInt < 0 ∧ fX3_whyUntaken x y c = some (r, c) ∧ ((r = -1 ∧ ¬ (0 ≤ x.toInt ∧ x.toInt < 4)) ∨ ∃ k, k < 4 ∧ x = nI k ∧ ((r = -2 ∧ ¬ (0 ≤ y.toInt ∧ y.toInt < 3)) ∨ ((0 ≤ y.toInt ∧ y.toInt < 3) ∧ ((r = -11 ∧ m 320 k = -1) ∨ (r = -12 ∧ (∃ l, l ≤ 60 ∧ m 320 k = nI l) ∧ ¬ m 321 k = y)))))) ∨ (∃ k l, k < 4 ∧ x = nI k ∧ l ≤ 60 ∧ (0 ≤ y.toInt ∧ y.toInt < 3) ∧ fX3_whyUntaken x y c = some (0, c) ∧ c 25 k = nI l ∧ m 320 k = nI l ∧ m 321 k = y ∧ ∀ i, i < l → c (210 + k) i = m 322 (60 * k + i)) := by
  rcases arg_cases x (n := 4) (by omega) with ⟨k, hk, rfl⟩ | hx
  · obtain ⟨s0, sl⟩ := hSh k hk
    by_cases hy : 0 ≤ y.toInt ∧ y.toInt < 3
    · rcases s0 with ⟨s1, s2⟩ | ⟨l, t1, t2, t3, t4⟩
      · refine Or.inl ⟨-11, by decide, ?_, Or.inr ⟨k, hk, rfl, Or.inr ⟨hy, Or.inl ⟨rfl, s2⟩⟩⟩⟩
        unfold fX3_whyUntaken
        rw [shH_y (rg4 hk), bnd_s, if_neg ne10, lane_y hy, bnd_s, if_neg ne10, gd_t (inbN hk (by omega)), nI_clamp (by omega), s1, if_pos rfl]
      · by_cases e : m 321 k = y
        · refine Or.inr ⟨k, l, hk, rfl, t1, hy, ?_, t2, t3, e, t4⟩
          unfold fX3_whyUntaken B_X3_whyUntaken_50
          rw [shH_y (rg4 hk), bnd_s, if_neg ne10, lane_y hy, bnd_s, if_neg ne10, gd_t (inbN hk (by omega)), nI_clamp (by omega), t2, if_neg (nm1 (by omega)), gd_t (inbN hk (by omega)), sl, if_pos e]
        · refine Or.inl ⟨-12, by decide, ?_, Or.inr ⟨k, hk, rfl, Or.inr ⟨hy, Or.inr ⟨rfl, ⟨l, t1, t3⟩, e⟩⟩⟩⟩
          unfold fX3_whyUntaken B_X3_whyUntaken_50
          rw [shH_y (rg4 hk), bnd_s, if_neg ne10, lane_y hy, bnd_s, if_neg ne10, gd_t (inbN hk (by omega)), nI_clamp (by omega), t2, if_neg (nm1 (by omega)), gd_t (inbN hk (by omega)), sl, if_neg e]
    · refine Or.inl ⟨-2, by decide, ?_, Or.inr ⟨k, hk, rfl, Or.inl ⟨rfl, hy⟩⟩⟩
      unfold fX3_whyUntaken
      rw [shH_y (rg4 hk), bnd_s, if_neg ne10, lane_n hy, bnd_s, if_pos rfl]
  · refine Or.inl ⟨-1, by decide, ?_, Or.inl ⟨rfl, hx⟩⟩
    unfold fX3_whyUntaken
    rw [shH_n hx, bnd_s, if_pos rfl]
theorem l02 (hy : 0 ≤ y.toInt ∧ y.toInt < 3) : (0 : Int64).toInt ≤ y.toInt ∧ y.toInt ≤ (2 : Int64).toInt := by
  rw [show (0 : Int64).toInt = 0 by decide, show (2 : Int64).toInt = 2 by decide]
  omega
theorem l02n (hy : ¬ (0 ≤ y.toInt ∧ y.toInt < 3)) : ¬ ((0 : Int64).toInt ≤ y.toInt ∧ y.toInt ≤ (2 : Int64).toInt) := by
  rw [show (0 : Int64).toInt = 0 by decide, show (2 : Int64).toInt = 2 by decide]
  omega
theorem isBeyC_ok {k l : Nat} (hk : k < 4) (hl : l ≤ 60) (h : sg 25 k = nI l) : fX3_isBeyond (nI k) z u sg = some (if 0 ≤ z.toInt ∧ 0 ≤ u.toInt ∧ z.toInt + u.toInt ≤ l then 0 else 1, sg) := by
  unfold fX3_isBeyond B_X3_isBeyond_30 B_X3_isBeyond_35
  rw [gd_t (inbN hk (by omega)), gd_t (inbN hk (by omega)), nI_clamp (by omega), h]
  simp only [lt0]
  by_cases h1 : z.toInt < 0
  · rw [if_pos h1, if_neg (by omega)]; rfl
  · rw [if_neg h1]
    by_cases h2 : u.toInt < 0
    · rw [if_pos h2, if_neg (by omega)]; rfl
    · rw [if_neg h2]
      have hz := fb_rng z
      have hu := fb_rng u
      by_cases h3 : (l : Int) < z.toInt
      · rw [if_pos (by rw [fa_lt, nI_toInt (by omega)]; exact h3), if_neg (by omega)]; rfl
      · have es : (nI l - z).toInt = l - z.toInt := by
          rw [fb_subI]
          · rw [nI_toInt (by omega)]
          · rw [nI_toInt (by omega)]; omega
          · rw [nI_toInt (by omega)]; omega
        rw [if_neg (by rw [fa_lt, nI_toInt (by omega)]; exact h3)]
        by_cases h4 : u.toInt ≤ l - z.toInt
        · rw [if_pos (by rw [fa_le, es]; exact h4), if_pos (by omega)]; rfl
        · rw [if_neg (by rw [fa_le, es]; exact h4), if_neg (by omega)]; rfl
theorem isBeyM_ok {l : Nat} (hl : l ≤ 60) : fX7_isBeyond z u.toInt64 (nI l) sg = some (if 0 ≤ z.toInt ∧ 0 ≤ u.toInt ∧ z.toInt + u.toInt ≤ l then 0 else 1, sg) := by
  unfold fX7_isBeyond B_X7_isBeyond_20 B_X7_isBeyond_25
  have hz := fb_rng z
  have hu := fb_rng u
  have es : (z.toInt64 + u.toInt64).toInt = z.toInt + u.toInt := by
    rw [fb_addL]
    · rw [t64, t64]
    · rw [t64, t64]; omega
    · rw [t64, t64]; omega
  simp only [lg_cmp_lt, lg_cmp_le]
  simp only [fa_lt64, fa_le64, es, t64, lt0, nI_toInt (show l < 2 ^ 31 by omega), show (0 : Int64).toInt = 0 by decide]
  by_cases h1 : z.toInt < 0
  · rw [if_pos h1, if_neg (by omega)]; rfl
  · rw [if_neg h1]
    by_cases h2 : u.toInt < 0
    · rw [if_pos h2, if_neg (by omega)]; rfl
    · rw [if_neg h2]
      by_cases h4 : z.toInt + u.toInt ≤ l
      · rw [if_pos h4, if_pos (by omega)]; rfl
      · rw [if_neg h4, if_neg (by omega)]; rfl
end A4
