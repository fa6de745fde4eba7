/-! how late a flow can be: by nodes, or at once -/
def smW (q : Nat → Int32) : Nat → Int32
  | 0 => 0
  | x + 1 => smW q x + q x
def alg (H : Nat → Nat → Int32) : Nat → Nat → Int32
  | 0 => H 0
  | x + 1 => sAlong (alg H x) (H (x + 1))
section C8
variable {sg c m : Hp} {x y z u : Int32} {N : NT}
theorem alg_cong {H G : Nat → Nat → Int32} : ∀ {x}, (∀ i, i ≤ x → req (H i) (G i)) → req (alg H x) (alg G x)
  | 0, h => h 0 (Nat.le_refl _)
  | x + 1, h => sAlong_cong (alg_cong (x := x) (fun i hi => h i (by omega))) (h (x + 1) (Nat.le_refl _))
theorem ok_alg {H : Nat → Nat → Int32} : ∀ {x}, (∀ i, i ≤ x → okRow (H i)) → okRow (alg H x)
  | 0, h => h 0 (Nat.le_refl _)
  | x + 1, h => ok_along (ok_alg (x := x) (fun i hi => h i (by omega))) (h (x + 1) (Nat.le_refl _))
theorem smW_cong {q r : Nat → Int32} : ∀ {x}, (∀ i, i < x → q i = r i) → smW q x = smW r x
  | 0, _ => rfl
  | x + 1, h => by
    unfold smW
    rw [smW_cong (x := x) (fun i hi => h i (by omega)), h x (by omega)]
theorem byNodes {w : Nat} (h : stC sg N) (hw : w < nF N) : fX0_waitByNodes (nI w) sg = some (smW (fun x => sg 17 (4 * w + x)) (nL N w), sg) := by
  have hF := h.1.1
  obtain ⟨l1, l2, -⟩ := h.1.2.2 w hw
  have g1 := (h.2.2.2.1 w hw).1
  unfold fX0_waitByNodes
  exact nloop (N := nL N w) (M := 0) (fun f t => L_X0_waitByNodes_4 (fun (w3_2 : Int32) (s4 : Hp) => some (w3_2, s4)) f (nI w) (smW (fun x => sg 17 (4 * w + x)) t) (nI t) sg) (some (smW (fun x => sg 17 (4 * w + x)) (nL N w), sg))
    (fun f t h1 ht => by
      rw [L_X0_waitByNodes_4, gd_t (inbN (by omega) (by omega)), nI_clamp (by omega), g1, if_neg (by rw [leN (by omega) (by omega)]; omega)]
      unfold fX0_latestAt
      rw [i4, pk_mul, nI_add, gd_t (inbN (by omega) (by omega)), nI_clamp (by omega), bnd_s, nI_1, Nat.mul_comm w 4]
      rfl)
    (fun f => by
      rw [L_X0_waitByNodes_4, gd_t (inbN (by omega) (by omega)), nI_clamp (by omega), g1, if_pos (by rw [leN (by omega) (by omega)]; omega)])
    200 0 (by omega) (by omega) (by omega)
def fr2 (sg d : Hp) : Prop := ∀ b j, b ≠ 20 → b ≠ 21 → d b j = sg b j
theorem once_in {K : Int32 → Hp → Option (Int32 × Hp)} {w : Nat} (h : stC sg N) (hw : w < nF N) : ∀ (j t F : Nat) (s : Hp), j + t = nL N w → 1 ≤ t → j < F → fr2 sg s → req (s 21) (alg (fun x => sg (180 + (4 * w + x))) (t - 1)) → ∃ d, L_X0_waitAtOnce_15 K F (nI w) (nI t) s = K (nI w) d ∧ fr2 sg d ∧ req (d 21) (alg (fun x => sg (180 + (4 * w + x))) (nL N w - 1)) := by
  have hF := h.1.1
  obtain ⟨l1, l2, -⟩ := h.1.2.2 w hw
  have g1 := (h.2.2.2.1 w hw).1
  intro j
  induction j with
  | zero =>
    intro t F s e1 e2 e3 e4 e5
    obtain ⟨F, rfl⟩ : ∃ q, F = q + 1 := ⟨F - 1, by omega⟩
    refine ⟨s, ?_, e4, by rw [← e1, Nat.zero_add]; exact e5⟩
    rw [L_X0_waitAtOnce_15, gd_t (inbN (by omega) (by omega)), nI_clamp (by omega), e4 13 w (by omega) (by omega), g1, if_pos (by rw [leN (by omega) (by omega)]; omega)]
  | succ j ih =>
    intro t F s e1 e2 e3 e4 e5
    obtain ⟨F, rfl⟩ : ∃ q, F = q + 1 := ⟨F - 1, by omega⟩
    obtain ⟨t, rfl⟩ : ∃ q, t = q + 1 := ⟨t - 1, by omega⟩
    have eH : s (180 + (4 * w + (t + 1))) = sg (180 + (4 * w + (t + 1))) := funext fun j => e4 _ _ (by omega) (by omega)
    rw [L_X0_waitAtOnce_15, gd_t (inbN (by omega) (by omega)), nI_clamp (by omega), e4 13 w (by omega) (by omega), g1, if_neg (by rw [leN (by omega) (by omega)]; omega), hasAt_ok (by omega) (by omega), bnd_s, fillAlong_ok a21 (alH (by omega)) a20 (by omega) (by omega), bnd_s, fillSame_ok a20 a21, bnd_s, nI_1]
    refine ih (t + 1 + 1) F _ (by omega) (by omega) (by omega) (fun b j h1 h2 => ?_) (fun i hi => ?_)
    · rw [fil_out (by omega), fil_out (by omega), e4 b j h1 h2]
    · rw [fil_in hi, fil_in hi, Nat.add_sub_cancel]
      show _ = sAlong (alg (fun x => sg (180 + (4 * w + x))) t) (sg (180 + (4 * w + (t + 1)))) i
      rw [eH]
      exact sAlong_cong e5 req.rfl' i hi
theorem atOnce {w : Nat} (h : stC sg N) (hw : w < nF N) : ∃ d, fX0_waitAtOnce (nI w) sg = some (sWait (nO N w) (alg (fun x => sg (180 + (4 * w + x))) (nL N w - 1)) 20, d) ∧ fr2 sg d := by
  have hF := h.1.1
  obtain ⟨l1, l2, l3, -, okO⟩ := h.1.2.2 w hw
  obtain ⟨g1, g2, g3⟩ := h.2.2.2.1 w hw
  obtain ⟨d, d1, d2, d3⟩ := once_in (K := fun (w11_1 : Int32) (s12 : Hp) => (bnd (fX0_comesAt w11_1 (0 : Int32) s12) (fun (r13 : Nat) (s14 : Hp) => (bnd (fX1_longestWait r13 21 (20 : Int32) s14) (fun (r15 : Int32) (s16 : Hp) => some (r15, s16)))))) h hw (nL N w - 1) 1 200 (fil sg 21 (sg (180 + (4 * w + 0))) 41) (by omega) (by omega) (by omega) (fun b j h1 h2 => fil_out (by omega)) (fun t ht => fil_in ht)
  have e150 : req (d (150 + (5 * w + 0))) (nO N w) := fun t ht => by rw [d2 _ _ (by omega) (by omega)]; exact g3 t ht
  refine ⟨d, ?_, d2⟩
  have hz : fX0_hasAt (nI w) 0 sg = some (180 + (4 * w + 0), sg) := hasAt_ok (x := 0) (by omega) (by omega)
  have cz : fX0_comesAt (nI w) 0 d = some (150 + (5 * w + 0), d) := comes_ok (x := 0) (by omega) (by omega)
  unfold fX0_waitAtOnce
  rw [hz, bnd_s, fillSame_ok (alH (by omega)) a21, bnd_s, i1, d1, cz, bnd_s, i20, longestWait_ok (alX (by omega)) a21 (by omega) (fun t ht => by rw [e150 t (by omega), e150 (t + 1) (by omega)]; exact okO.2.2 t (by omega)), bnd_s, sWait_cong (fun t ht => e150 t (by omega)) d3]
def fr3 (sg d : Hp) : Prop := ∀ b j, ¬ (inR 85 b j ∨ inR 86 b j) → d b j = sg b j
theorem boundM_in {K : Int32 → Int32 → Int32 → Hp → Option (Int32 × Hp)} {w : Nat} {v2 : Int32} (h : stM sg N) (hw : w < nF N) (hok : ∀ x, x < nL N w → okRow (haM sg w x)) : ∀ (j t F : Nat) (s : Hp), j + t = nL N w → j < F → fr3 sg s → req (mr s 85) (alg (haM sg w) (t - 1)) → ∃ d, L_X7_bound_65 K F (nI w) v2 (smW (fun x => sg 318 (4 * w + x)) t) (nI t) s = K (nI w) v2 (smW (fun x => sg 318 (4 * w + x)) (nL N w)) d ∧ fr3 sg d ∧ req (mr d 85) (alg (haM sg w) (nL N w - 1)) := by
  have hF := h.1.1
  obtain ⟨l1, l2, -⟩ := h.1.2.2 w hw
  obtain ⟨g1, -⟩ := h.2.2.2.1 w hw
  intro j
  induction j with
  | zero =>
    intro t F s e1 e2 e4 e5
    obtain ⟨F, rfl⟩ : ∃ q, F = q + 1 := ⟨F - 1, by omega⟩
    have : t = nL N w := by omega
    subst this
    refine ⟨s, ?_, e4, e5⟩
    rw [L_X7_bound_65, gd_t (inbN (by omega) (by omega)), nI_clamp (by omega), e4 314 w (by unfold inR; omega), g1, if_pos (by rw [leN (by omega) (by omega)]; omega)]
  | succ j ih =>
    intro t F s e1 e2 e4 e5
    obtain ⟨F, rfl⟩ : ∃ q, F = q + 1 := ⟨F - 1, by omega⟩
    have ex : (4 : Int32) * nI w + nI t = nI (4 * w + t) := by rw [i4, pk_mul, nI_add]
    have ex2 : (44 : Int32) + 4 * nI w + nI t = nI (44 + (4 * w + t)) := by rw [i4, show (44 : Int32) = nI 44 from rfl, pk_mul, nI_add, nI_add, Nat.add_assoc]
    rw [L_X7_bound_65, gd_t (inbN (by omega) (by omega)), nI_clamp (by omega), e4 314 w (by unfold inR; omega), g1, if_neg (by rw [leN (by omega) (by omega)]; omega), ex, ex2, gd_t (inbN (by omega) (by omega)), nI_clamp (by omega), e4 318 _ (by unfold inR; omega)]
    unfold B_X7_bound_123
    rw [nI_1]
    by_cases e0 : t = 0
    · subst e0
      rw [if_pos (by decide)]
      exact ih (0 + 1) F s (by omega) (by omega) e4 e5
    · rw [if_neg (by rw [i0, leN (by omega) (by omega)]; omega)]
      obtain ⟨t, rfl⟩ : ∃ q, t = q + 1 := ⟨t - 1, by omega⟩
      have okA : okRow (alg (haM sg w) t) := ok_alg (fun i hi => hok i (by omega))
      have eH : req (mr s (44 + (4 * w + (t + 1)))) (haM sg w (t + 1)) := mr_kpR (P := fun b j => inR 85 b j ∨ inR 86 b j) e4 (fun i hi => by unfold inR; omega)
      have okS : okRow (sAlong (mr s 85) (mr s (44 + (4 * w + (t + 1))))) := ok_along (okRow_req (fun i hi => (e5 i hi).symm) okA) (okRow_req (fun i hi => (eH i hi).symm) (hok (t + 1) (by omega)))
      rw [show (85 : Int32) = nI 85 from rfl, show (86 : Int32) = nI 86 from rfl, layAlong_ok (by omega) (by omega) (by omega) (by omega) (by omega), bnd_s]
      generalize hs : filM s 86 (sAlong (mr s 85) (mr s (44 + (4 * w + (t + 1))))) 41 = s1
      have s86 : req (mr s1 86) (sAlong (mr s 85) (mr s (44 + (4 * w + (t + 1))))) := fun i hi => by rw [← hs, filM_in hi (by omega) hi]
      have lb := layBack_ok (d := 0) (f := 86) (to := 85) (sg := s1) (by omega) (by omega) (by omega) (by omega) (rowB_req (fun i hi => (s86 i hi).symm) okS.2.1)
      rw [show (fX7_layMoved 0 (nI 86) 0 (nI 85) s1) = some ((), filM s1 85 (sBack (mr s1 86) 0) 41) from lb, bnd_s]
      refine ih (t + 1 + 1) F _ (by omega) (by omega) (fun b j hb => ?_) (fun i hi => ?_)
      · rw [filM_kpR (fun q => hb (Or.inl q)), ← hs, filM_kpR (fun q => hb (Or.inr q)), e4 b j hb]
      · rw [filM_in hi (by omega) hi, Nat.add_sub_cancel]
        show _ = sAlong (alg (haM sg w) t) (haM sg w (t + 1)) i
        rw [sBack0 i hi, s86 i hi]
        exact sAlong_cong e5 eH i hi
theorem bound_st (h : Rel c m) : Sim (fX6_bound x y) (fX7_bound x y) c m := by
  obtain ⟨N, d, r, sC', sM', g4, g5, d1, sD, dW, hRel, k, k1, kV, sK, key⟩ := net_pair h
  have hF := sC'.1.1
  have hR3 := sC'.1.2.1
  rcases arg_cases x (n := nF N) (by omega) with ⟨w, hw, rfl⟩ | hx
  · obtain ⟨l1, l2, l3, -, okO⟩ := sC'.1.2.2 w hw
    by_cases hy : 0 ≤ y.toInt ∧ y.toInt ≤ 1
    · obtain ⟨q, hq, rfl⟩ := upN (n := 1) (x := y) (by omega) hy
      have preC : fX6_bound (nI w) (nI q) c = if r = 0 then some (-3, d) else if nI q = 1 then (if nI (nR N) = 2 then some (-3, d) else B_X6_bound_53 (nI w) (nI q) d) else B_X6_bound_53 (nI w) (nI q) d := by
        unfold fX6_bound B_X6_bound_50
        rw [hasFlow_ok sC'.2.1 hF, if_pos (rgN hw (by omega)), bnd_s, if_neg ne10, up_y hy, bnd_s, if_neg ne10, d1, bnd_s, sD.2.2.1]
      have preM : fX7_bound (nI w) (nI q) m = if nI q = 1 then (if nI (nR N) = 2 then some (-3, m) else B_X7_bound_36 (nI w) (nI q) m) else B_X7_bound_36 (nI w) (nI q) m := by
        unfold fX7_bound B_X7_bound_43
        rw [noFlow_ok sM'.2.1 (by omega), if_pos (rgN hw (by omega)), bnd_s, if_pos rfl, in_y (a := 0) (b := 1) hy, bnd_s, if_neg ne10, sM'.2.2.1]
      by_cases hq2 : q = 1 ∧ nR N = 2
      · refine ⟨-3, d, m, ?_, ?_, hRel m eqV.r⟩
        · rw [preC]
          by_cases r0 : r = 0
          · rw [if_pos r0]
          · rw [if_neg r0, if_pos (by rw [hq2.1]; rfl), if_pos (by rw [hq2.2]; rfl)]
        · rw [preM, if_pos (by rw [hq2.1]; rfl), if_pos (by rw [hq2.2]; rfl)]
      · have preC2 : fX6_bound (nI w) (nI q) c = if r = 0 then some (-3, d) else B_X6_bound_53 (nI w) (nI q) d := by
          rw [preC]
          by_cases r0 : r = 0
          · rw [if_pos r0, if_pos r0]
          · rw [if_neg r0, if_neg r0]
            by_cases q1 : q = 1
            · rw [if_pos (by rw [q1]; rfl), if_neg (by rw [show (2 : Int32) = nI 2 from rfl, eqN (by omega) (by omega)]; omega)]
            · rw [if_neg (by rw [i1, eqN (by omega) (by omega)]; exact q1)]
        have preM2 : fX7_bound (nI w) (nI q) m = B_X7_bound_36 (nI w) (nI q) m := by
          rw [preM]
          by_cases q1 : q = 1
          · rw [if_pos (by rw [q1]; rfl), if_neg (by rw [show (2 : Int32) = nI 2 from rfl, eqN (by omega) (by omega)]; omega)]
          · rw [if_neg (by rw [i1, eqN (by omega) (by omega)]; exact q1)]
        rcases key with rfl | ⟨rfl, ok⟩
        · refine ⟨-3, d, k, by rw [preC2, if_pos rfl], ?_, hRel k kV⟩
          rw [preM2]
          unfold B_X7_bound_36 B_X7_bound_43
          rw [k1, bnd_s, if_pos rfl]
        · obtain ⟨f, f1, f2, f3⟩ := (sK.2.2.2.1 w hw).2.2
          have okh : ∀ x, x < nL N w → okRow (haM k w x) := fun x hx => (ok w x hw hx).2.2.2.2.2
          have e44 : (44 : Int32) + 4 * nI w = nI (44 + (4 * w + 0)) := by rw [i4, show (44 : Int32) = nI 44 from rfl, pk_mul, nI_add, Nat.add_zero]
          have lb := layBack_ok (d := 0) (f := 44 + (4 * w + 0)) (to := 85) (sg := k) (by omega) (by omega) (by omega) (by omega) (okh 0 (by omega)).2.1
          obtain ⟨k', w1, w2, w3⟩ := boundM_in (K := fun (w13_1 : Int32) (w13_2 : Int32) (w13_3 : Int32) (s14 : Hp) => (if w13_2 = 0 then B_X7_bound_151  w13_3 s14 else (gd (inb w13_1 5) ((bnd (fX7_waitOf (s14 313 (w13_1).toNatClampNeg) (85 : Int32) (20 : Int32) s14) (fun (r15 : Int32) (s16 : Hp) => B_X7_bound_151  r15 s16)))))) (v2 := nI q) sK hw okh (nL N w) 0 200 (filM k 85 (sBack (mr k (44 + (4 * w + 0))) 0) 41) (by omega) (by omega) (fun b j hb => filM_kpR (fun q => hb (Or.inl q))) (fun i hi => by
            rw [filM_in hi (by omega) hi]
            exact sBack0 i hi)
          have ek : eqM k k' := fun b j hb => w2 b j (fun q2 => hb (by unfold inR at q2; unfold sM; omega))
          have k313 : k' 313 w = nI f := by rw [w2 313 w (by unfold inR; omega)]; exact f2
          have kf : req (mr k' f) (nO N w) := (mr_kpR (P := fun b j => inR 85 b j ∨ inR 86 b j) w2 (fun t ht => by unfold inR; omega)).trans f3
          have preM3 : fX7_bound (nI w) (nI q) m = if q = 0 then some (smW (fun x => k 318 (4 * w + x)) (nL N w), k') else some (sWait (nO N w) (alg (haM k w) (nL N w - 1)) 20, k') := by
            rw [preM2]
            unfold B_X7_bound_36
            rw [k1, bnd_s, if_neg ne10, e44, show (fX7_layMoved 0 (nI (44 + (4 * w + 0))) 0 85 k) = some ((), filM k 85 (sBack (mr k (44 + (4 * w + 0))) 0) 41) from lb, bnd_s]
            refine (show _ = _ from w1).trans ?_
            unfold B_X7_bound_151
            by_cases q0 : q = 0
            · rw [if_pos (by rw [q0]; rfl), if_pos q0]
            · rw [if_neg (by rw [i0, eqN (by omega) (by omega)]; exact q0), if_neg q0, gd_t (inbN (by omega) (by omega)), nI_clamp (by omega), k313, show (85 : Int32) = nI 85 from rfl, i20, waitOf_ok (by omega) (by omega) (by omega), bnd_s, sWait_cong (fun t ht => kf t (by omega)) w3]
          have hRk : ∀ d', eqC d d' → d' 0 7 = d 0 7 → d' 0 8 = d 0 8 → Rel d' k' := fun d' e1 e2 e3 => Rel_scr (hRel k kV) e1 ek e2 e3 (w2 300 24 (by unfold inR; omega)) (w2 300 0 (by unfold inR; omega))
          by_cases q0 : q = 0
          · refine ⟨smW (fun x => k 318 (4 * w + x)) (nL N w), d, k', ?_, by rw [preM3, if_pos q0], hRk d eqC.r rfl rfl⟩
            rw [preC2, if_neg ne10]
            unfold B_X6_bound_53 B_X6_bound_76
            rw [if_pos (by rw [q0]; rfl), byNodes sD hw, bnd_s, smW_cong (fun i hi => (ok w i hw hi).2.2.1)]
          · obtain ⟨d', v1, v2⟩ := atOnce sD hw
            refine ⟨sWait (nO N w) (alg (haM k w) (nL N w - 1)) 20, d', k', ?_, by rw [preM3, if_neg q0], hRk d' (fun b j hb => v2 b j (fun q => hb (by unfold sC; omega)) (fun q => hb (by unfold sC; omega))) (v2 0 7 (by omega) (by omega)) (v2 0 8 (by omega) (by omega))⟩
            rw [preC2, if_neg ne10]
            unfold B_X6_bound_53 B_X6_bound_76
            rw [if_neg (by rw [i0, eqN (by omega) (by omega)]; exact q0), v1, bnd_s, sWait_cong (fun _ _ => rfl) (alg_cong (fun i hi => (ok w i hw (by omega)).2.1))]
    · refine ⟨-2, c, m, ?_, ?_, h⟩
      · unfold fX6_bound
        rw [hasFlow_ok sC'.2.1 hF, if_pos (rgN hw (by omega)), bnd_s, if_neg ne10, up_n hy, bnd_s, if_pos rfl]
      · unfold fX7_bound
        rw [noFlow_ok sM'.2.1 (by omega), if_pos (rgN hw (by omega)), bnd_s, if_pos rfl, in_n (a := 0) (b := 1) hy, bnd_s, if_pos rfl]
  · refine ⟨-1, c, m, ?_, ?_, h⟩
    · unfold fX6_bound
      rw [hasFlow_ok sC'.2.1 hF, if_neg hx, bnd_s, if_pos rfl]
    · unfold fX7_bound
      rw [noFlow_ok sM'.2.1 (by omega), if_neg hx, bnd_s, if_neg ne10]
end C8
