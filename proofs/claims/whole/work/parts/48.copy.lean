/-! cells from sheet to sheet -/
section A9
variable {sg c m : Hp} {x y z u v : Int32}
theorem fltN {n : Nat} (h : n < 1000000) : flt (nI n) = 0 := by
  unfold flt
  rw [if_neg (by rw [nI_toInt (by omega)]; omega)]
theorem copyA {K : Int32 → Int32 → Int32 → Hp → Option (Int32 × Hp)} {k i n : Nat} {a b : Int32} (hk : k < 4) (hin : i + n ≤ 60) : L_X7_copy_107 K 200 (nI k) (nI i) a b (nI n) 0 sg = K a b (nI n) (seg sg 323 0 (fun t => sg 322 (60 * k + i + t)) n) := by
  have := nloop (N := n) (M := 0) (fun f t => L_X7_copy_107 K f (nI k) (nI i) a b (nI n) (nI t) (seg sg 323 0 (fun t => sg 322 (60 * k + i + t)) t)) (K a b (nI n) (seg sg 323 0 (fun t => sg 322 (60 * k + i + t)) n))
    (fun f t h1 ht => by
      have e := seg_up (sg := sg) (b := 323) (base := 0) (F := fun t => sg 322 (60 * k + i + t)) (t := t) (x := sg 322 (60 * k + i + t)) rfl
      rw [Nat.zero_add] at e
      rw [L_X7_copy_107, if_neg (by rw [leN (by omega) (by omega)]; omega), ix60, nI_add, gd_t (inbN (by omega) (by omega)), gd_t (inbN (by omega) (by omega)), nI_clamp (by omega), nI_clamp (by omega), seg_out (by omega), e, nI_1])
    (fun f => by
      rw [L_X7_copy_107, if_pos (by rw [leN (by omega) (by omega)]; omega)])
    200 0 (by omega) (by omega) (by omega)
  rw [seg_0] at this
  exact this
theorem copyB {K : Int32 → Hp → Option (Int32 × Hp)} {k i n : Nat} {F : Nat → Int32} (hk : k < 4) (hin : i + n ≤ 60) (hF : ∀ t, t < n → sg 323 t = F t) : L_X7_copy_144 K 200 (nI k) (nI i) (nI n) 0 sg = K (nI n) (seg sg 322 (60 * k + i) F n) := by
  have := nloop (N := n) (M := 0) (fun f t => L_X7_copy_144 K f (nI k) (nI i) (nI n) (nI t) (seg sg 322 (60 * k + i) F t)) (K (nI n) (seg sg 322 (60 * k + i) F n))
    (fun f t h1 ht => by
      rw [L_X7_copy_144, if_neg (by rw [leN (by omega) (by omega)]; omega), gd_t (inbN (by omega) (by omega)), ix60, nI_add, gd_t (inbN (by omega) (by omega)), nI_clamp (by omega), nI_clamp (by omega), seg_out (by omega), hF t ht, seg_up rfl, nI_1])
    (fun f => by
      rw [L_X7_copy_144, if_pos (by rw [leN (by omega) (by omega)]; omega)])
    200 0 (by omega) (by omega) (by omega)
  rw [seg_0] at this
  exact this
theorem copy_st (h : Rel c m) : Sim (fX6_copy x y z u v) (fX7_copy x y z u v) c m := by
  have hR := h
  obtain ⟨⟨n, hSt, hSh, hSe, hNt⟩, hT, hF⟩ := h
  rcases arg_cases x (n := 4) (by omega) with ⟨k, hk, rfl⟩ | hx
  · rcases arg_cases z (n := 4) (by omega) with ⟨q, hq, rfl⟩ | hz
    · obtain ⟨s0, sl⟩ := hSh k hk
      obtain ⟨p0, pl⟩ := hSh q hq
      rcases s0 with ⟨s1, s2⟩ | ⟨l, t1, t2, t3, t4⟩
      · refine ⟨-11, _, _, ?_, ?_, Rel_fault (v := 1) hR⟩
        · unfold fX6_copy fX3_bring B_X3_bring_38
          rw [shH_y (rg4 hk), bnd_s, if_neg ne10, shH_y (rg4 hq), bnd_s, if_neg ne10, gd_t (inbN hk (by omega)), nI_clamp (by omega), s1, if_pos rfl, bnd_s, ended_ok, bnd_s, show flt (-11) = 1 by decide]
        · unfold fX7_copy B_X7_copy_38 fX7_failed
          rw [noSh_y (rg4 hk), bnd_s, if_pos rfl, noSh_y (rg4 hq), bnd_s, if_pos rfl, gd_t (inbN hk (by omega)), nI_clamp (by omega), s2, if_pos (by decide), bnd_s, show (-10 - 1 : Int32) = -11 by decide]
      · rcases p0 with ⟨s1, s2⟩ | ⟨l2, u1, u2, u3, u4⟩
        · refine ⟨-11, _, _, ?_, ?_, Rel_fault (v := 1) hR⟩
          · unfold fX6_copy fX3_bring B_X3_bring_38
            rw [shH_y (rg4 hk), bnd_s, if_neg ne10, shH_y (rg4 hq), bnd_s, if_neg ne10, gd_t (inbN hk (by omega)), nI_clamp (by omega), t2, if_neg (nm1 (by omega)), gd_t (inbN hq (by omega)), nI_clamp (by omega), s1, if_pos rfl, bnd_s, ended_ok, bnd_s, show flt (-11) = 1 by decide]
          · unfold fX7_copy B_X7_copy_38 fX7_failed
            rw [noSh_y (rg4 hk), bnd_s, if_pos rfl, noSh_y (rg4 hq), bnd_s, if_pos rfl, gd_t (inbN hk (by omega)), nI_clamp (by omega), t3, if_neg (nneg (by omega)), gd_t (inbN hq (by omega)), nI_clamp (by omega), s2, if_neg (by decide), bnd_s, show (-10 - 1 : Int32) = -11 by decide]
        · have preC : fX6_copy (nI k) y (nI q) u v c = bnd (if c 26 k = c 26 q then (bnd (fX3_isBeyond (nI k) y v c) (fun (r5 : Int32) (s6 : Hp) => (if r5 = 0 then (bnd (fX3_isBeyond (nI q) u v s6) (fun (r7 : Int32) (s8 : Hp) => (if r7 = 0 then gd (cpok tC (210 + k) y (210 + q) u v) (some (v, (cpy s8 (210 + k) y (210 + q) u v))) else some (-13, s8)))) else some (-13, s6)))) else some ((-12 : Int32), c)) (fun (r1 : Int32) (s2 : Hp) => (bnd (fX6_ended r1 s2) (fun (r3 : Int32) (s4 : Hp) => some (r3, s4)))) := by
            unfold fX6_copy fX3_bring B_X3_bring_82
            rw [shH_y (rg4 hk), bnd_s, if_neg ne10, shH_y (rg4 hq), bnd_s, if_neg ne10, gd_t (inbN hk (by omega)), nI_clamp (by omega), t2, if_neg (nm1 (by omega)), gd_t (inbN hq (by omega)), nI_clamp (by omega), u2, if_neg (nm1 (by omega)), gd_t (inbN hk (by omega)), gd_t (inbN hq (by omega))]
            simp only [gd_t (inbN hk (by omega)), gd_t (inbN hq (by omega))]
          have preM : fX7_copy (nI k) y (nI q) u v m = if m 321 k = m 321 q then (bnd (fX7_isBeyond y v.toInt64 (nI l) m) (fun (r9 : Int32) (s10 : Hp) => (if r9 = 0 then (bnd (fX7_isBeyond u v.toInt64 (s10 320 q) s10) (fun (r13 : Int32) (s14 : Hp) => (if r13 = 0 then L_X7_copy_107 (fun (w15_3 : Int32) (w15_4 : Int32) (w15_5 : Int32) (s16 : Hp) => L_X7_copy_144 (fun (w17_5 : Int32) (s18 : Hp) => (bnd (fX7_refused w17_5 s18) (fun (r19 : Int32) (s20 : Hp) => some (r19, s20)))) 200 w15_3 w15_4 w15_5 (0 : Int32) s16) 200 (nI k) y (nI q) u v (0 : Int32) s14 else B_X7_copy_98  s14))) else B_X7_copy_98  s10))) else (bnd (fX7_failed (2 : Int32) m) (fun (r21 : Int32) (s22 : Hp) => some (r21, s22))) := by
            unfold fX7_copy
            rw [noSh_y (rg4 hk), bnd_s, if_pos rfl, noSh_y (rg4 hq), bnd_s, if_pos rfl, gd_t (inbN hk (by omega)), nI_clamp (by omega), t3, if_neg (nneg (by omega)), gd_t (inbN hq (by omega)), nI_clamp (by omega), u3, if_pos (nI_pos' (by omega)), gd_t (inbN hk (by omega)), gd_t (inbN hq (by omega)), gd_t (inbN hk (by omega))]
            simp only [gd_t (inbN hq (by omega))]
          by_cases hla : c 26 k = c 26 q
          · rw [if_pos hla] at preC
            rw [if_pos (by rw [← sl, ← pl]; exact hla)] at preM
            by_cases hb1 : 0 ≤ y.toInt ∧ 0 ≤ v.toInt ∧ y.toInt + v.toInt ≤ l
            · by_cases hb2 : 0 ≤ u.toInt ∧ 0 ≤ v.toInt ∧ u.toInt + v.toInt ≤ l2
              · obtain ⟨i, hi, rfl⟩ := upN (x := y) (n := 60) (by omega) ⟨by omega, by omega⟩
                obtain ⟨i2, hi2, rfl⟩ := upN (x := u) (n := 60) (by omega) ⟨by omega, by omega⟩
                obtain ⟨w, hw, rfl⟩ := upN (x := v) (n := 60) (by omega) ⟨by omega, by omega⟩
                have e1 : i + w ≤ l := by
                  have h7 := hb1.2.2
                  rw [nI_toInt (by omega), nI_toInt (by omega)] at h7
                  omega
                have e2 : i2 + w ≤ l2 := by
                  have h7 := hb2.2.2
                  rw [nI_toInt (by omega), nI_toInt (by omega)] at h7
                  omega
                have hcp : cpok tC (210 + k) (nI i) (210 + q) (nI i2) (nI w) = true := by
                  unfold cpok
                  rw [isA_41 (alS hk) (by omega), isA_41 (alS hq) (by omega), alS hk, alS hq, nI_clamp (by omega), nI_clamp (by omega), nI_clamp (by omega)]
                  simp only [Bool.and_eq_true, decide_eq_true_eq]
                  exact ⟨⟨⟨⟨⟨⟨trivial, trivial⟩, nneg (by omega)⟩, nneg (by omega)⟩, nneg (by omega)⟩, by omega⟩, by omega⟩
                have ecp : cpy c (210 + k) (nI i) (210 + q) (nI i2) (nI w) = upC c (210 + q) (va_cpy (c (210 + k)) (c (210 + q)) i i2 w) := by
                  unfold cpy
                  rw [nI_clamp (by omega), nI_clamp (by omega), nI_clamp (by omega)]
                have o1 : ∀ b j, b ≠ 210 + q → upC c (210 + q) (va_cpy (c (210 + k)) (c (210 + q)) i i2 w) b j = c b j := fun b j hb => by
                  unfold upC
                  rw [if_neg hb]
                have o2 : ∀ b j, b ≠ 322 → b ≠ 323 → seg (seg m 323 0 (fun t => m 322 (60 * k + i + t)) w) 322 (60 * q + i2) (fun t => m 322 (60 * k + i + t)) w b j = m b j := fun b j h1 h2 => by
                  rw [seg_out (by omega), seg_out (by omega)]
                refine ⟨nI w, up2 (upC c (210 + q) (va_cpy (c (210 + k)) (c (210 + q)) i i2 w)) 0 8 0, up2 (seg (seg m 323 0 (fun t => m 322 (60 * k + i + t)) w) 322 (60 * q + i2) (fun t => m 322 (60 * k + i + t)) w) 300 0 0, ?_, ?_, ?_⟩
                · rw [preC, isBeyC_ok hk t1 t2, if_pos hb1, bnd_s, if_pos rfl, isBeyC_ok hq u1 u2, if_pos hb2, bnd_s, if_pos rfl, gd_t hcp, bnd_s, ended_ok, bnd_s, fltN (by omega), ecp]
                · rw [preM, isBeyM_ok t1, if_pos hb1, bnd_s, if_pos rfl, u3, isBeyM_ok u1, if_pos hb2, bnd_s, if_pos rfl, copyA hk (by omega), copyB (F := fun t => m 322 (60 * k + i + t)) hq (by omega) (fun t ht => by
                    have := seg_in (sg := m) (b := 323) (base := 0) (F := fun t => m 322 (60 * k + i + t)) ht
                    rw [Nat.zero_add] at this
                    exact this)]
                  rfl
                · refine Rel_sheets hR (fun b j h1 h2 => ?_) (fun b j h1 h2 => ?_) (fun r hr => ?_) ?_ ?_
                  · unfold uSh at h1; unfold sC at h2; rw [up2_o (by omega), o1 b j (by omega)]
                  · unfold vSh at h1; unfold sM at h2; rw [up2_o (by omega), o2 b j (by omega) (by omega)]
                  · obtain ⟨s1, s2⟩ := hSh r hr
                    rw [up2_o (by omega), up2_o (by omega), up2_o (by omega), up2_o (by omega), o1 25 r (by omega), o1 26 r (by omega), o2 320 r (by omega) (by omega), o2 321 r (by omega) (by omega)]
                    refine ⟨?_, s2⟩
                    rcases s1 with s1 | ⟨l3, v1, v2, v3, v4⟩
                    · exact Or.inl s1
                    · refine Or.inr ⟨l3, v1, v2, v3, fun j hj => ?_⟩
                      rw [up2_o (by omega), up2_o (b := 322) (j := 60 * r + j) (c := 300) (by omega)]
                      by_cases e : r = q
                      · subst e
                        unfold upC va_cpy
                        rw [if_pos rfl]
                        by_cases hj2 : i2 ≤ j ∧ j < i2 + w
                        · rw [if_pos (by omega), t4 (i + (j - i2)) (by omega)]
                          have := seg_in (sg := seg m 323 0 (fun t => m 322 (60 * k + i + t)) w) (b := 322) (base := 60 * r + i2) (F := fun t => m 322 (60 * k + i + t)) (n := w) (t := j - i2) (by omega)
                          rw [show 60 * r + i2 + (j - i2) = 60 * r + j by omega] at this
                          rw [this]
                          show _ = m 322 (60 * k + i + (j - i2))
                          rw [Nat.add_assoc]
                        · rw [if_neg (by omega), seg_out (by omega), seg_out (by omega)]
                          exact v4 j hj
                      · rw [o1 _ _ (by omega), seg_out (by omega), seg_out (by omega)]
                        exact v4 j hj
                  · rw [up2_o (by omega), up2_o (by omega), o1 0 7 (by omega), o2 300 24 (by omega) (by omega)]; exact hT
                  · rw [up2_s, up2_s]
              · refine ⟨-13, _, _, ?_, ?_, Rel_fault (v := 3) hR⟩
                · rw [preC, isBeyC_ok hk t1 t2, if_pos hb1, bnd_s, if_pos rfl, isBeyC_ok hq u1 u2, if_neg hb2, bnd_s, if_neg ne10, bnd_s, ended_ok, bnd_s, show flt (-13) = 3 by decide]
                · unfold B_X7_copy_98 fX7_failed at preM
                  rw [preM, isBeyM_ok t1, if_pos hb1, bnd_s, if_pos rfl, u3, isBeyM_ok u1, if_neg hb2, bnd_s, if_neg ne10, bnd_s, show (-10 - 3 : Int32) = -13 by decide]
            · refine ⟨-13, _, _, ?_, ?_, Rel_fault (v := 3) hR⟩
              · rw [preC, isBeyC_ok hk t1 t2, if_neg hb1, bnd_s, if_neg ne10, bnd_s, ended_ok, bnd_s, show flt (-13) = 3 by decide]
              · unfold B_X7_copy_98 fX7_failed at preM
                rw [preM, isBeyM_ok t1, if_neg hb1, bnd_s, if_neg ne10, bnd_s, show (-10 - 3 : Int32) = -13 by decide]
          · rw [if_neg hla] at preC
            rw [if_neg (by rw [← sl, ← pl]; exact hla)] at preM
            refine ⟨-12, _, _, ?_, ?_, Rel_fault (v := 2) hR⟩
            · rw [preC, bnd_s, ended_ok, bnd_s, show flt (-12) = 2 by decide]
            · unfold fX7_failed at preM
              rw [preM, bnd_s, show (-10 - 2 : Int32) = -12 by decide]
    · refine ⟨-1, _, _, ?_, ?_, Rel_fault (v := 0) hR⟩
      · unfold fX6_copy fX3_bring B_X3_bring_16
        rw [shH_y (rg4 hk), bnd_s, if_neg ne10, shH_n hz, bnd_s, if_pos rfl, bnd_s, ended_ok, bnd_s, show flt (-1) = 0 by decide]
      · unfold fX7_copy B_X7_copy_14 fX7_refused
        rw [noSh_y (rg4 hk), bnd_s, if_pos rfl, noSh_n hz, bnd_s, if_neg ne10, bnd_s]
  · refine ⟨-1, _, _, ?_, ?_, Rel_fault (v := 0) hR⟩
    · unfold fX6_copy fX3_bring B_X3_bring_16
      rw [shH_n hx, bnd_s, if_pos rfl, bnd_s, ended_ok, bnd_s, show flt (-1) = 0 by decide]
    · unfold fX7_copy B_X7_copy_14 fX7_refused
      rw [noSh_n hx, bnd_s, if_neg ne10, bnd_s]
end A9
