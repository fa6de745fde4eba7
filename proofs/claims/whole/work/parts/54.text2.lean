section B6
variable {sg c m : Hp} {x y z u v : Int32} {f : Nat → Int32} {n k : Nat}
theorem prs_ok {k' : Nat} {s' : Int32} {I' : Nat → Nat × Nat × Nat} : ∀ {j k p s I}, 1 ≤ k → (∀ i, i < k → iOk (I i)) → prsT f n j k s I p = .inr (k', s', I') → 1 ≤ k' ∧ k' ≤ k + j ∧ ∀ i, i < k' → iOk (I' i)
  | 0, k, p, s, I, hk, h, e => by
    unfold prsT at e
    by_cases en : n ≤ p
    · rw [if_pos en] at e
      cases e
      exact ⟨hk, Nat.le_refl _, h⟩
    · rw [if_neg en] at e
      cases e
  | j + 1, k, p, s, I, hk, h, e => by
    unfold prsT at e
    by_cases en : n ≤ p
    · rw [if_pos en] at e
      cases e
      exact ⟨hk, by omega, h⟩
    · rw [if_neg en] at e
      by_cases hg : (f p = 38 ∨ f p = 43) ∧ (s = 0 ∨ f p = s)
      · rw [if_pos hg] at e
        cases ei : itmT f n (p + 1) with
        | inl q => rw [ei] at e; cases e
        | inr t =>
          obtain ⟨kd, a, r, q⟩ := t
          rw [ei] at e
          have := prs_ok (j := j) (k := k + 1) (by omega) (fun i hi => by
            by_cases w : i = k
            · simp only [if_pos w]; exact (itm_ok ei).1
            · simp only [if_neg w]; exact h i (by omega)) e
          exact ⟨this.1, by omega, this.2.2⟩
      · rw [if_neg hg] at e
        cases e
theorem red_ok {k' : Nat} {s' : Int32} {I' : Nat → Nat × Nat × Nat} (e : redT f n = .inr (k', s', I')) : 1 ≤ k' ∧ k' ≤ 6 ∧ ∀ i, i < k' → iOk (I' i) := by
  unfold redT at e
  cases ei : itmT f n 0 with
  | inl q => rw [ei] at e; cases e
  | inr t =>
    obtain ⟨kd, a, r, q⟩ := t
    rw [ei] at e
    exact prs_ok (j := 5) (k := 1) (by omega) (fun i hi => (itm_ok ei).1) e
theorem layItem_ok {I : Nat → Nat × Nat × Nat} {to i : Nat} (hto : to < 90) (hk : k ≤ 6) (hi : i < k) (hA : itA sg I k) (hO : iOk (I i)) : fX7_layItem (nI to) (nI i) sg = some ((), filM sg to (iRow (I i)) 41) := by
  obtain ⟨a1, a2, a3⟩ := hA i hi
  obtain ⟨o1, o2, o3, o4, o5⟩ := hO
  unfold fX7_layItem B_X7_layItem_52 B_X7_layItem_61 iRow
  rw [gd_t (inbN (by omega) (by omega)), gd_t (inbN (by omega) (by omega)), gd_t (inbN (by omega) (by omega)), gd_t (inbN (by omega) (by omega)), gd_t (inbN (by omega) (by omega)), gd_t (inbN (by omega) (by omega)), nI_clamp (by omega), a1, a2]
  by_cases e1 : (I i).1 = 1
  · rw [if_pos (by rw [e1]; rfl), if_pos e1, a3 (by omega), layBucket_ok hto, bnd_s]
  · rw [if_neg (by rw [i1, eqN (by omega) (by omega)]; exact e1), if_neg e1]
    by_cases e2 : (I i).1 = 2
    · rw [if_pos (by rw [e2]; rfl), a3 (by omega), layLate_ok hto (o5 e2) o2, bnd_s]
    · rw [if_neg (by rw [show (2 : Int32) = nI 2 from rfl, eqN (by omega) (by omega)]; exact e2), i0, layLate_ok hto (by omega) o2, bnd_s, o3 (by omega), gd_t (inbN (by omega) (by omega))]
def kpT (n0 : Nat) (sg d : Hp) : Prop := ∀ x j, ¬ (x = 303 ∧ ((41 * n0 ≤ j ∧ j < 41 * n0 + 41) ∨ (3444 ≤ j ∧ j < 3485))) → d x j = sg x j
theorem filM_kp {n0 : Nat} {F : Nat → Int32} : kpT n0 sg (filM sg n0 F 41) := fun x j hx => by
  unfold filM
  rw [if_neg (by omega)]
theorem filM_kp2 {n0 : Nat} {F : Nat → Int32} : kpT n0 sg (filM sg 84 F 41) := fun x j hx => by
  unfold filM
  rw [if_neg (by omega)]
theorem kpT.t {n0 : Nat} {a b : Hp} (h : kpT n0 sg a) (h2 : kpT n0 a b) : kpT n0 sg b := fun x j hx => (h2 x j hx).trans (h x j hx)
theorem textM_in {n0 : Nat} {s : Int32} {I : Nat → Nat × Nat × Nat} {K : Hp → Option (Int32 × Hp)} (hn0 : n0 < 24) (hk : k ≤ 6) (hO : ∀ i, i < k → iOk (I i)) : ∀ (r t F : Nat) (sg : Hp), r + t = k → 1 ≤ t → r < F → sg 300 1 = nI n0 → sg 300 5 = nI k → sg 300 6 = s → itA sg I k → req (mr sg n0) (tRow s I (t - 1)) → ∃ d, L_X7_text_90 K F (nI t) sg = K d ∧ kpT n0 sg d ∧ req (mr d n0) (tRow s I (k - 1)) := by
  intro r
  induction r with
  | zero =>
    intro t F sg h1 h2 h3 h4 h5 h6 h7 h8
    obtain ⟨F, rfl⟩ : ∃ w, F = w + 1 := ⟨F - 1, by omega⟩
    refine ⟨sg, ?_, fun _ _ _ => rfl, by rw [← h1, Nat.zero_add]; exact h8⟩
    rw [L_X7_text_90, h5, if_pos (by rw [leN (by omega) (by omega)]; omega)]
  | succ r ih =>
    intro t F sg h1 h2 h3 h4 h5 h6 h7 h8
    obtain ⟨F, rfl⟩ : ∃ w, F = w + 1 := ⟨F - 1, by omega⟩
    obtain ⟨t, rfl⟩ : ∃ w, t = w + 1 := ⟨t - 1, by omega⟩
    have e1 := layItem_ok (sg := sg) (to := 84) (by omega) hk (show t + 1 < k by omega) h7 (hO (t + 1) (by omega))
    have okI := ok_item (hO (t + 1) (by omega))
    generalize hs : filM sg 84 (iRow (I (t + 1))) 41 = s1 at e1
    have k1 : kpT n0 sg s1 := by rw [← hs]; exact filM_kp2
    have r1 : req (mr s1 n0) (tRow s I t) := fun i hi => by
      rw [← hs, filM_out hi (by omega) (by omega)]; exact h8 i hi
    have r2 : req (mr s1 84) (iRow (I (t + 1))) := fun i hi => by
      rw [← hs, filM_in hi (by omega) hi]
    have okT : okRow (tRow s I t) := ok_tRow (fun i hi => hO i (by omega))
    have bf : rowB (mr s1 n0) := rowB_req (fun i hi => (r1 i hi).symm) okT.2.1
    rw [L_X7_text_90, h5, if_neg (by rw [leN (by omega) (by omega)]; omega), show (84 : Int32) = nI 84 from rfl, e1, bnd_s, k1 300 6 (by omega), h6]
    unfold B_X7_text_122
    rw [k1 300 1 (by omega), h4]
    have fin : ∀ (F2 : Nat → Int32), req F2 (tRow s I (t + 1)) → ∃ d, L_X7_text_90 K F (nI (t + 1 + 1)) (filM s1 n0 F2 41) = K d ∧ kpT n0 sg d ∧ req (mr d n0) (tRow s I (k - 1)) := by
      intro F2 hF2
      have k2 : kpT n0 sg (filM s1 n0 F2 41) := k1.t filM_kp
      obtain ⟨d, d1, d2, d3⟩ := ih (t + 1 + 1) F (filM s1 n0 F2 41) (by omega) (by omega) (by omega) (by rw [k2 300 1 (by omega)]; exact h4) (by rw [k2 300 5 (by omega)]; exact h5) (by rw [k2 300 6 (by omega)]; exact h6) (fun i hi => by
        rw [k2 307 i (by omega), k2 308 i (by omega), k2 309 i (by omega)]
        exact h7 i hi) (fun i hi => by rw [filM_in hi (by omega) hi, Nat.add_sub_cancel]; exact hF2 i hi)
      exact ⟨d, d1, k2.t d2, d3⟩
    have eT : tRow s I (t + 1) = if s = 38 then sLeast (tRow s I t) (iRow (I (t + 1))) else sSum (tRow s I t) (iRow (I (t + 1))) := rfl
    by_cases e38 : s = 38
    · rw [if_pos e38, show (84 : Int32) = nI 84 from rfl, layLeast_ok (by omega) (by omega) (by omega) bf, bnd_s, nI_1]
      refine fin _ ?_
      rw [eT, if_pos e38]
      exact sLeast_cong r1 r2
    · rw [if_neg e38, show (84 : Int32) = nI 84 from rfl, laySum_ok (by omega) (by omega) (by omega), bnd_s, nI_1]
      refine fin _ ?_
      rw [eT, if_neg e38]
      exact sSum_cong r1 r2
/-- a state whose row is new, seen as a filled one -/
theorem as_fil {w : Hp} {n0 : Nat} {F : Nat → Int32} (hk : ∀ b j, ¬ sM b j → ¬ (b = 303 ∧ 41 * n0 ≤ j ∧ j < 41 * n0 + 41) → w b j = m b j) (hn0 : n0 < 24) (hF : req (mr w n0) F) : ∃ m2, eqM m m2 ∧ w = filM m2 n0 F 41 ∧ m2 300 24 = w 300 24 := by
  refine ⟨filM w n0 (mr m n0) 41, fun b j hb => ?_, ?_, by rw [filM_o (by omega)]⟩
  · unfold filM mr
    by_cases e : b = 303 ∧ 41 * n0 ≤ j ∧ j < 41 * n0 + 41
    · rw [if_pos e, show 41 * n0 + (j - 41 * n0) = j by omega, e.1]
    · rw [if_neg e]; exact hk b j hb e
  · funext b j
    unfold filM
    by_cases e : b = 303 ∧ 41 * n0 ≤ j ∧ j < 41 * n0 + 41
    · rw [if_pos e, ← hF (j - 41 * n0) (by omega)]
      unfold mr
      rw [show 41 * n0 + (j - 41 * n0) = j by omega, e.1]
    · rw [if_neg e, if_neg e]
theorem flt100 {q : Nat} (hq : q ≤ 1000) : flt (-100 - nI q) = 0 := by
  unfold flt
  have e : (-100 - nI q).toInt = -100 - (q : Int) := by
    have e1 : (-100 : Int32).toInt = -100 := by decide
    rw [fb_subI]
    · rw [e1, nI_toInt (by omega)]
    · rw [e1, nI_toInt (by omega)]; omega
    · rw [e1, nI_toInt (by omega)]; omega
  rw [if_neg (by rw [e]; omega)]
theorem kpN_eq {d : Hp} (h : kpN sg d) : eqM sg d := fun x j hx => h x j (fun w => hx (by unfold sM; omega))
theorem text_st (h : Rel c m) : Sim (fX6_text x y z u) (fX7_text x y z u) c m := by
  have hR := h
  obtain ⟨⟨n, h0⟩, hT, hF⟩ := h
  obtain ⟨h1, h2, h3, h4⟩ := h0.1
  rcases tk_ok (x := x) (y := y) (z := z) (u := u) h0.2.1 with ⟨r, hr, e1, e2⟩ | ⟨k, i, q, hk, hiq, rfl, rfl, rfl, e1, e2, e3, e4⟩
  · refine ⟨r, up2 c 0 8 (flt r), up2 m 300 0 (flt r), ?_, ?_, Rel_fault hR⟩
    · unfold fX6_text fX6_stairOfText
      rw [e1, bnd_s, if_neg (neg0 hr), bnd_s, ended_ok, bnd_s]
    · unfold fX7_text fX7_refused
      rcases e2 with ⟨e2, rfl⟩ | ⟨e2, e3⟩
      · rw [e2, bnd_s, if_neg ne10, bnd_s, show flt (-1) = 0 by decide]
      · rw [e2, bnd_s, if_pos rfl, e3, bnd_s, if_neg (negle hr)]
  · have hrow : ∀ t, t < q → m 322 (60 * k + i + t) = tkn c (210 + k) i q 6 t := fun t ht => by rw [tkn_in ht]; exact e4 t ht
    obtain ⟨res, d, a1, a2, a3, a4, a5⟩ := readC (sg := tkn c (210 + k) i q) (f := tkn c (210 + k) i q 6) (n := q) (by omega) (fun _ _ => rfl)
    obtain ⟨rem, w, b1, b2, b3⟩ := readM (sg := m) (b := 60 * k + i) (f := tkn c (210 + k) i q 6) (n := q) (by omega) (by omega) hrow
    have ec : eqC c d := tkn_eq.t a2
    have em : eqM m w := kpN_eq b2
    have d07 : d 0 7 = m 300 24 := by rw [a3, tkn_07]; exact hT
    have w24 : w 300 24 = m 300 24 := b2 300 24 (by omega)
    have d12 : d 1 2 = nI n := by rw [ec 1 2 (by unfold sC; omega)]; exact h2
    have w1 : w 300 1 = nI n := by rw [em 300 1 (by unfold sM; omega)]; exact h3
    have efr : (60 : Int32) * nI k + nI i = nI (60 * k + i) := ix60
    cases er : redT (tkn c (210 + k) i q 6) q with
    | inl t =>
      rw [er] at a5 b3
      obtain ⟨rfl, ht⟩ := a5
      have b3 : rem = nI t := b3
      subst b3
      refine ⟨-100 - nI t, up2 d 0 8 0, up2 w 300 0 0, ?_, ?_, Rel_end (ec.t (eqC.up (by unfold sC; omega))) (em.t (eqM.up (by unfold sM; omega))) h0 ?_ (by rw [up2_s, up2_s])⟩
      · unfold fX6_text fX6_stairOfText
        rw [e1, bnd_s, if_pos rfl, a1, bnd_s, if_neg (nm1 (by omega)), bnd_s, ended_ok, bnd_s, flt100 ht]
      · unfold fX7_text fX7_refused
        rw [e2, bnd_s, if_pos rfl, e3, bnd_s, if_pos (by decide), efr, b1, bnd_s, if_neg (nneg (by omega)), bnd_s]
      · rw [up2_o (by omega), up2_o (by omega), w24]; exact d07
    | inr t =>
      obtain ⟨kk, s, I⟩ := t
      rw [er] at a5 b3
      obtain ⟨rfl, c1, c2⟩ := a5
      obtain ⟨rfl, g1, g2, g3⟩ := b3
      obtain ⟨o1, o2, o3⟩ := red_ok er
      have c1 : req (d 29) (tRow s I (kk - 1)) := c1
      have c2 : d 5 3 = nI (if kk = 1 then (I 0).1 else 0) := c2
      have g1 : w 300 5 = nI kk := g1
      have g2 : w 300 6 = s := g2
      have g3 : itA w I kk := g3
      have okT : okRow (tRow s I (kk - 1)) := ok_tRow (fun i hi => o3 i (by omega))
      have k3 : (if kk = 1 then (I 0).1 else 0) < 3 := by
        by_cases e : kk = 1
        · rw [if_pos e]; exact (o3 0 (by omega)).1
        · rw [if_neg e]; omega
      by_cases hn : n < 24
      · have l0 := layItem_ok (sg := w) (to := n) (i := 0) (by omega) o2 (by omega) g3 (o3 0 (by omega))
        have kp0 : kpT n w (filM w n (iRow (I 0)) 41) := filM_kp
        generalize hw0 : filM w n (iRow (I 0)) 41 = w0 at l0 kp0
        have A0 : itA w0 I kk := fun i hi => by
          rw [kp0 307 i (by omega), kp0 308 i (by omega), kp0 309 i (by omega)]
          exact g3 i hi
        obtain ⟨d', f1, f2, f3⟩ := textM_in (s := s) (K := fun (s14 : Hp) => (if (s14 300 5) ≤ (1 : Int32) then (gd (inb (0 : Int32) 6) (B_X7_text_161  (s14 307 ((0 : Int32)).toNatClampNeg) s14)) else B_X7_text_161  (0 : Int32) s14)) hn o2 o3 (kk - 1) 1 200 w0 (by omega) (by omega) (by omega) (by rw [kp0 300 1 (by omega)]; exact w1) (by rw [kp0 300 5 (by omega)]; exact g1) (by rw [kp0 300 6 (by omega)]; exact g2) A0 (fun t ht => by
          rw [← hw0, filM_in ht (by omega) ht]
          rfl)
        have kd : kpT n w d' := kp0.t f2
        have d'1 : d' 300 1 = nI n := by rw [kd 300 1 (by omega)]; exact w1
        obtain ⟨m2, p1, p2, p3⟩ := as_fil (m := m) (w := d') (n0 := n) (F := tRow s I (kk - 1)) (fun b j hb hb2 => by
          have : ¬ (b = 303 ∧ (41 * n ≤ j ∧ j < 41 * n + 41 ∨ 3444 ≤ j ∧ j < 3485)) := fun q => hb2 (by unfold sM at hb; omega)
          rw [kd b j this]
          exact em b j hb) hn f3
        have kM : (if d' 300 5 ≤ (1 : Int32) then (gd (inb (0 : Int32) 6) (B_X7_text_161  (d' 307 ((0 : Int32)).toNatClampNeg) d')) else B_X7_text_161  (0 : Int32) d') = B_X7_text_161 (nI (if kk = 1 then (I 0).1 else 0)) d' := by
          rw [kd 300 5 (by omega), g1, cl0, kd 307 0 (by omega), (g3 0 (by omega)).1]
          by_cases e : kk = 1
          · rw [if_pos (by rw [i1, leN (by omega) (by omega)]; omega), if_pos e, gd_t (inb0 (by omega))]
          · rw [if_neg (by rw [i1, leN (by omega) (by omega)]; omega), if_neg e]; rfl
        refine ⟨nI n, _, _, ?_, ?_, nw_end2 (k0 := if kk = 1 then (I 0).1 else 0) hn h0 ec p1 (by rw [d07, p3, kd 300 24 (by omega), w24]) k3 okT⟩
        · unfold fX6_text fX6_stairOfText
          have e53 : fil d (100 + n) (d 29) 41 5 3 = nI (if kk = 1 then (I 0).1 else 0) := by rw [fil_out (by omega)]; exact c2
          rw [e1, bnd_s, if_pos rfl, a1, bnd_s, if_pos rfl, full_y d12 hn, bnd_s, if_pos rfl, nextRow_ok d12 hn, bnd_s, fillSame_ok a29 (alC hn), bnd_s, e53, keepNext_ok (by rw [fil_out (by omega)]; exact d12) hn, bnd_s, bnd_s, ended_ok, bnd_s, fltN (by omega), fil_cong c1]
        · unfold fX7_text
          have b161 : B_X7_text_161 (nI (if kk = 1 then (I 0).1 else 0)) d' = some (nI n, up2 (up2 (up2 d' 302 n (nI (if kk = 1 then (I 0).1 else 0))) 300 1 (nI (n + 1))) 300 0 0) := by
            unfold B_X7_text_161 fX7_refused
            rw [keep_ok d'1 hn, bnd_s, bnd_s]
          rw [e2, bnd_s, if_pos rfl, e3, bnd_s, if_pos (by decide), efr, b1, bnd_s, if_pos (by decide), if_neg (f24_y w1 hn), w1, i0, l0, bnd_s]
          rw [← p2]
          exact f1.trans (kM.trans b161)
      · refine ⟨-4, up2 d 0 8 0, up2 w 300 0 0, ?_, ?_, Rel_end (ec.t (eqC.up (by unfold sC; omega))) (em.t (eqM.up (by unfold sM; omega))) h0 ?_ (by rw [up2_s, up2_s])⟩
        · unfold fX6_text fX6_stairOfText
          rw [e1, bnd_s, if_pos rfl, a1, bnd_s, if_pos rfl, full_n d12 h1 hn, bnd_s, if_neg ne10, bnd_s, ended_ok, bnd_s, show flt (-4) = 0 by decide]
        · unfold fX7_text fX7_refused
          rw [e2, bnd_s, if_pos rfl, e3, bnd_s, if_pos (by decide), efr, b1, bnd_s, if_pos (by decide), if_pos (f24_n w1 h1 hn), bnd_s]
        · rw [up2_o (by omega), up2_o (by omega), w24]; exact d07
end B6
