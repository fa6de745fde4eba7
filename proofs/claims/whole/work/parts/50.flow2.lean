section B2
variable {sg c m : Hp} {x y z u v : Int32}
theorem flow_in {K : Hp → Option (Int32 × Hp)} {b n F : Nat} (hF : F < 5) (hn : n ≤ 4) (hb : b + n ≤ 240) (hc : sg 300 12 = nI F) : L_X7_flow_114 K 200 (nI n) (nI b) 0 sg = K (seg sg 315 (4 * F) (fun t => sg 322 (b + t)) n) := by
  have := nloop (N := n) (M := 0) (fun f t => L_X7_flow_114 K f (nI n) (nI b) (nI t) (seg sg 315 (4 * F) (fun t => sg 322 (b + t)) t)) (K (seg sg 315 (4 * F) (fun t => sg 322 (b + t)) n))
    (fun f t h1 ht => by
      show L_X7_flow_114 K (f + 1) (nI n) (nI b) (nI t) (seg sg 315 (4 * F) (fun t => sg 322 (b + t)) t) = _
      have e : seg sg 315 (4 * F) (fun t => sg 322 (b + t)) t 300 12 = nI F := by rw [seg_out (by omega)]; exact hc
      rw [L_X7_flow_114, if_neg (by rw [leN (by omega) (by omega)]; omega), nI_add, gd_t (inbN (by omega) (by omega)), e, i4, pk_mul, nI_add, gd_t (inbN (by omega) (by omega)), nI_clamp (by omega), nI_clamp (by omega), seg_out (by omega), seg_up rfl, nI_1])
    (fun f => by
      show L_X7_flow_114 K (f + 1) (nI n) (nI b) (nI n) _ = _
      rw [L_X7_flow_114, if_pos (by rw [leN (by omega) (by omega)]; omega)])
    200 0 (by omega) (by omega) (by omega)
  rw [seg_0] at this
  exact this
theorem alX {i : Nat} (h : i < 25) : alen tC (150 + i) = 41 := by
  have : ∀ j, j < 25 → alen tC (150 + j) = 41 := by decide +kernel
  exact this i h
def flC (c : Hp) (a F n : Nat) : Hp := up2 (up2 (fil (upC (up2 (up2 c 12 F (nI a)) 13 F (nI n)) (140 + F) (va_cpy (c 6) (c (140 + F)) 0 0 n)) (150 + 5 * F) (c (100 + a)) 41) 2 5 (nI (F + 1))) 2 14 0
def flM (m : Hp) (a F n b : Nat) : Hp := up2 (seg (up2 (up2 m 313 F (nI a)) 314 F (nI n)) 315 (4 * F) (fun t => m 322 (b + t)) n) 300 12 (nI (F + 1))
theorem addFlow_ok {a F n : Nat} (ha : a < 24) (hF : F < 5) (hn : n ≤ 4) (hc : sg 2 5 = nI F) : fX0_addFlow (nI a) (100 + a) 6 (nI n) sg = some (nI F, flC sg a F n) := by
  unfold fX0_addFlow flC
  have hcp : cpok tC 6 0 (140 + F) 0 (nI n) = true := by
    unfold cpok
    rw [isA_41 a6 (by omega), isA_41 (alW hF) (by omega), alW hF, a6, cl0, nI_clamp (by omega)]
    simp only [Bool.and_eq_true, decide_eq_true_eq]
    exact ⟨⟨⟨⟨⟨⟨trivial, trivial⟩, by decide⟩, by decide⟩, nneg (by omega)⟩, by omega⟩, by omega⟩
  have ecp : cpy (up2 (up2 sg 12 F (nI a)) 13 F (nI n)) 6 0 (140 + F) 0 (nI n) = upC (up2 (up2 sg 12 F (nI a)) 13 F (nI n)) (140 + F) (va_cpy (sg 6) (sg (140 + F)) 0 0 n) := by
    unfold cpy
    rw [cl0, nI_clamp (by omega)]
    have e6 : up2 (up2 sg 12 F (nI a)) 13 F (nI n) 6 = sg 6 := funext fun j => by rw [up2_o (by omega), up2_o (by omega)]
    have e140 : up2 (up2 sg 12 F (nI a)) 13 F (nI n) (140 + F) = sg (140 + F) := funext fun j => by rw [up2_o (by omega), up2_o (by omega)]
    rw [e6, e140]
  have e100 : upC (up2 (up2 sg 12 F (nI a)) 13 F (nI n)) (140 + F) (va_cpy (sg 6) (sg (140 + F)) 0 0 n) (100 + a) = sg (100 + a) := funext fun j => by
    unfold upC
    rw [if_neg (by omega), up2_o (by omega), up2_o (by omega)]
  have e25 : fil (upC (up2 (up2 sg 12 F (nI a)) 13 F (nI n)) (140 + F) (va_cpy (sg 6) (sg (140 + F)) 0 0 n)) (150 + 5 * F) (sg (100 + a)) 41 2 5 = nI F := by
    rw [fil_out (by omega)]
    unfold upC
    rw [if_neg (by omega), up2_o (by omega), up2_o (by omega)]
    exact hc
  unfold fX0_comesAt
  rw [hc, gd_t (inbN hF (by omega)), gd_t (inbN hF (by omega)), gd_t (inbN hF (by omega)), nI_clamp (by omega), gd_t hcp, ecp, show (5 : Int32) = nI 5 from rfl, i0, pk_mul, nI_add, gd_t (inbN (by omega) (by omega)), nI_clamp (by omega), show F * 5 + 0 = 5 * F by omega, bnd_s, fillSame_ok (alC ha) (alX (by omega)), bnd_s, e100, e25, nI_1]
  rfl
theorem isFull0 {F : Nat} (hF : F ≤ 5) (hc : sg 2 5 = nI F) : fX0_isFull sg = some (if F < 5 then 0 else 1, sg) := by
  unfold fX0_isFull B_X0_isFull_13
  rw [hc]
  by_cases h : F < 5
  · rw [if_pos (by rw [show (5 : Int32) = nI 5 from rfl, ltN (by omega) (by omega)]; exact h), if_pos h]; rfl
  · rw [if_neg (by rw [show (5 : Int32) = nI 5 from rfl, ltN (by omega) (by omega)]; exact h), if_neg h]; rfl
theorem flow_end {c1 : Hp} {n a F k b : Nat} (h0 : Rel0 c m n) (hc : eqC c c1) (ht : c1 0 7 = m 300 24) (ha : a < n) (hF5 : F < 5) (hF : c 2 5 = nI F) (hk1 : 1 ≤ k) (hk4 : k ≤ 4) (hnd : nod (c1 6) k) (hdi : ∀ s t, s < t → t < k → c1 6 s ≠ c1 6 t) (hrow : ∀ t, t < k → m 322 (b + t) = c1 6 t) : Rel (up2 (flC c1 a F k) 0 8 0) (up2 (flM m a F k b) 300 0 0) := by
  obtain ⟨hSt, hSh, hSe, N, hN, hC, hM, g4, g5, g6⟩ := h0
  have eF : nF N = F := by
    have := hC.1
    rw [hF, eqN (by omega) (by have := hN.1; omega)] at this
    exact this.symm
  have hn24 := hSt.1
  obtain ⟨ra1, ra2, -⟩ := hSt.2.2.2 a ha
  generalize hd : up2 (flC c1 a F k) 0 8 0 = d
  generalize hkk : up2 (flM m a F k b) 300 0 0 = w
  have ec : ∀ q j, ¬ ((q = 12 ∧ j = F) ∨ (q = 13 ∧ j = F) ∨ q = 140 + F ∨ q = 150 + 5 * F ∨ (q = 2 ∧ (j = 5 ∨ j = 14)) ∨ (q = 0 ∧ j = 8)) → d q j = c1 q j := fun q j hq => by
    rw [← hd, up2_o (by omega)]
    unfold flC
    rw [up2_o (by omega), up2_o (by omega), fil_out (by omega)]
    unfold upC
    rw [if_neg (by omega), up2_o (by omega), up2_o (by omega)]
  have em : ∀ q j, ¬ ((q = 313 ∧ j = F) ∨ (q = 314 ∧ j = F) ∨ (q = 315 ∧ 4 * F ≤ j ∧ j < 4 * F + k) ∨ (q = 300 ∧ (j = 12 ∨ j = 0))) → w q j = m q j := fun q j hq => by
    rw [← hkk, up2_o (by omega)]
    unfold flM
    rw [up2_o (by omega), seg_out (by omega), up2_o (by omega), up2_o (by omega)]
  have d12 : d 12 F = nI a := by
    rw [← hd, up2_o (by omega)]
    unfold flC
    rw [up2_o (by omega), up2_o (by omega), fil_out (by omega)]
    unfold upC
    rw [if_neg (by omega), up2_o (by omega), up2_s]
  have d13 : d 13 F = nI k := by
    rw [← hd, up2_o (by omega)]
    unfold flC
    rw [up2_o (by omega), up2_o (by omega), fil_out (by omega)]
    unfold upC
    rw [if_neg (by omega), up2_s]
  have d140 : ∀ t, t < k → d (140 + F) t = c1 6 t := fun t ht => by
    rw [← hd, up2_o (by omega)]
    unfold flC
    rw [up2_o (by omega), up2_o (by omega), fil_out (by omega)]
    unfold upC va_cpy
    rw [if_pos rfl, if_pos (by omega), Nat.sub_zero, Nat.zero_add]
  have d150 : req (d (150 + 5 * F)) (c (100 + a)) := fun t ht => by
    rw [← hd, up2_o (by omega)]
    unfold flC
    rw [up2_o (by omega), up2_o (by omega), fil_in ht, hc _ _ (by unfold sC; omega)]
  have d25 : d 2 5 = nI (F + 1) := by
    rw [← hd, up2_o (by omega)]
    unfold flC
    rw [up2_o (by omega), up2_s]
  have d214 : d 2 14 = 0 := by
    rw [← hd, up2_o (by omega)]
    unfold flC
    rw [up2_s]
  have w313 : w 313 F = nI a := by
    rw [← hkk, up2_o (by omega)]
    unfold flM
    rw [up2_o (by omega), seg_out (by omega), up2_o (by omega), up2_s]
  have w314 : w 314 F = nI k := by
    rw [← hkk, up2_o (by omega)]
    unfold flM
    rw [up2_o (by omega), seg_out (by omega), up2_s]
  have w315 : ∀ t, t < k → w 315 (4 * F + t) = c1 6 t := fun t ht => by
    rw [← hkk, up2_o (by omega)]
    unfold flM
    rw [up2_o (by omega), seg_in ht]
    exact hrow t ht
  have w12 : w 300 12 = nI (F + 1) := by
    rw [← hkk, up2_o (by omega)]
    unfold flM
    rw [up2_s]
  have nd : ∀ t, t < k → ∃ q, q < 6 ∧ c1 6 t = nI q := fun t ht => by
    obtain ⟨q, h1, h2⟩ := upN (n := 5) (x := c1 6 t) (by omega) (hnd t ht)
    exact ⟨q, by omega, h2⟩
  have ncl : ∀ t, t < k → c1 6 t = nI (c1 6 t).toNatClampNeg ∧ (c1 6 t).toNatClampNeg < 6 := fun t ht => by
    obtain ⟨q, h1, h2⟩ := nd t ht
    rw [h2, nI_clamp (by omega)]
    exact ⟨rfl, h1⟩
  have rest := Rest_keep (c := c) (d := d) (m := m) (k := w) (fun q j h1 h2 => by
    unfold nC at h2
    unfold sC at h1
    rw [ec q j (by omega)]
    exact hc q j (by unfold sC; omega)) (fun q j h1 h2 => by
    unfold nM at h2
    unfold sM at h1
    exact em q j (by omega)) hSt hSh hSe
  refine ⟨⟨n, rest.1, rest.2.1, rest.2.2, (F + 1, fun w => if w = F then k else nL N w, fun w x => if w = F then (c1 6 x).toNatClampNeg else nN N w x, fun w => if w = F then c (100 + a) else nO N w, nS N, nR N), ?_, ?_, ?_, ?_, ?_, Or.inl d214⟩, ?_, ?_⟩
  · refine ⟨?_, hN.2.1, fun w hw => ?_⟩
    · show F + 1 ≤ 5
      omega
    · show 1 ≤ (if w = F then k else nL N w) ∧ (if w = F then k else nL N w) ≤ 4 ∧ (∀ x, x < (if w = F then k else nL N w) → (if w = F then (c1 6 x).toNatClampNeg else nN N w x) < 6) ∧ (∀ x y, x < y → y < (if w = F then k else nL N w) → (if w = F then (c1 6 x).toNatClampNeg else nN N w x) ≠ (if w = F then (c1 6 y).toNatClampNeg else nN N w y)) ∧ okRow (if w = F then c (100 + a) else nO N w)
      have hw2 : w < F + 1 := hw
      by_cases e : w = F
      · simp only [if_pos e]
        refine ⟨hk1, hk4, fun x hx => (ncl x hx).2, fun x y hxy hy heq => hdi x y hxy hy ?_, ra1⟩
        rw [(ncl x (by omega)).1, (ncl y hy).1, heq]
      · simp only [if_neg e]
        exact hN.2.2 w (by omega)
  · refine ⟨d25, ?_, fun w hw => ?_, fun v hv => ?_⟩
    · rw [ec 2 6 (by omega), hc 2 6 (by unfold sC; omega)]; exact hC.2.1
    · show (∃ f, f < n ∧ d 12 w = nI f ∧ req (d (100 + f)) (if w = F then c (100 + a) else nO N w)) ∧ req (d (150 + 5 * w)) (if w = F then c (100 + a) else nO N w) ∧ d 13 w = nI (if w = F then k else nL N w) ∧ ∀ x, x < (if w = F then k else nL N w) → d (140 + w) x = nI (if w = F then (c1 6 x).toNatClampNeg else nN N w x)
      have hw2 : w < F + 1 := hw
      by_cases e : w = F
      · subst e
        simp only [if_pos rfl]
        refine ⟨⟨a, ha, d12, fun t _ => ?_⟩, d150, d13, fun x hx => ?_⟩
        · rw [ec _ _ (by omega), hc _ _ (by unfold sC; omega), if_pos trivial]
        · rw [d140 x hx]; exact (ncl x hx).1
      · simp only [if_neg e]
        obtain ⟨⟨f, y1, y2, y3⟩, y4, y5, y6⟩ := hC.2.2.1 w (by omega)
        refine ⟨⟨f, y1, ?_, fun t ht => ?_⟩, fun t ht => ?_, ?_, fun x hx => ?_⟩
        · rw [ec 12 w (by omega), hc 12 w (by unfold sC; omega)]; exact y2
        · rw [ec _ _ (by omega), hc _ _ (by unfold sC; omega)]; exact y3 t ht
        · rw [ec _ _ (by omega), hc _ _ (by unfold sC; omega)]; exact y4 t ht
        · rw [ec 13 w (by omega), hc 13 w (by unfold sC; omega)]; exact y5
        · rw [ec _ _ (by omega), hc _ _ (by unfold sC; omega)]; exact y6 x hx
    · show d 10 v = -9 ∨ ∃ f, f < n ∧ d 10 v = nI f ∧ req (d (100 + f)) (nS N v) ∧ req (d (130 + v)) (nS N v)
      rw [ec 10 v (by omega), hc 10 v (by unfold sC; omega)]
      rcases hC.2.2.2 v hv with y | ⟨f, y1, y2, y3, y4⟩
      · exact Or.inl y
      · refine Or.inr ⟨f, y1, y2, fun t ht => ?_, fun t ht => ?_⟩
        · rw [ec _ _ (by omega), hc _ _ (by unfold sC; omega)]; exact y3 t ht
        · rw [ec _ _ (by omega), hc _ _ (by unfold sC; omega)]; exact y4 t ht
  · refine ⟨w12, ?_, fun v hv => ?_, fun v hv => ?_⟩
    · rw [em 300 16 (by omega)]; exact hM.2.1
    · show (∃ f, f < n ∧ w 313 v = nI f ∧ req (mr w f) (if v = F then c (100 + a) else nO N v)) ∧ w 314 v = nI (if v = F then k else nL N v) ∧ ∀ x, x < (if v = F then k else nL N v) → w 315 (4 * v + x) = nI (if v = F then (c1 6 x).toNatClampNeg else nN N v x)
      have hv2 : v < F + 1 := hv
      have er : ∀ f, req (mr w f) (mr m f) := fun f t ht => em _ _ (by omega)
      by_cases e : v = F
      · subst e
        simp only [if_pos rfl]
        refine ⟨⟨a, ha, w313, (er a).trans ra2⟩, w314, fun x hx => ?_⟩
        rw [w315 x hx]; exact (ncl x hx).1
      · simp only [if_neg e]
        obtain ⟨⟨f, y1, y2, y3⟩, y5, y6⟩ := hM.2.2.1 v (by omega)
        have l4 := (hN.2.2 v (by omega)).2.1
        refine ⟨⟨f, y1, ?_, (er f).trans y3⟩, ?_, fun x hx => ?_⟩
        · rw [em 313 v (by omega)]; exact y2
        · rw [em 314 v (by omega)]; exact y5
        · rw [em 315 (4 * v + x) (by omega)]; exact y6 x hx
    · show w 311 v = -9 ∨ ∃ f, f < n ∧ w 311 v = nI f ∧ req (mr w f) (nS N v)
      rw [em 311 v (by omega)]
      rcases hM.2.2.2 v hv with y | ⟨f, y1, y2, y3⟩
      · exact Or.inl y
      · exact Or.inr ⟨f, y1, y2, fun t ht => (em _ _ (by omega)).trans (y3 t ht)⟩
  · intro v hv
    have hv2 : v < F + 1 := hv
    by_cases e : v = F
    · rw [e, d12, w313]
    · rw [ec 12 v (by omega), hc 12 v (by unfold sC; omega), em 313 v (by omega)]
      exact g4 v (by omega)
  · intro v hv
    rw [ec 10 v (by omega), hc 10 v (by unfold sC; omega), em 311 v (by omega)]
    exact g5 v hv
  · rw [ec 0 7 (by omega), em 300 24 (by omega)]; exact ht
  · rw [← hd, ← hkk, up2_s, up2_s]
theorem flow_st (h : Rel c m) : Sim (fX6_flow x y z u v) (fX7_flow x y z u v) c m := by
  have hR := h
  obtain ⟨⟨n, h0⟩, hT, hF⟩ := h
  obtain ⟨h1, h2, h3, h4⟩ := h0.1
  rcases arg_cases x (n := n) (by omega) with ⟨a, ha, rfl⟩ | hx
  · rcases tk_ok (x := y) (y := z) (z := u) (u := v) h0.2.1 with ⟨r, hr, e1, e2⟩ | ⟨k, i, q, hk, hiq, rfl, rfl, rfl, e1, e2, e3, e4⟩
    · refine ⟨r, up2 c 0 8 (flt r), up2 m 300 0 (flt r), ?_, ?_, Rel_fault hR⟩
      · unfold fX6_flow fX6_newFlow B_X6_newFlow_45
        rw [has_y h2 h1 (rgN ha (by omega)), bnd_s, if_neg ne10, e1, bnd_s, if_neg (neg0 hr), if_neg (neg0 hr), bnd_s, ended_ok, bnd_s]
      · unfold fX7_flow B_X7_flow_15 fX7_refused
        rcases e2 with ⟨e2, rfl⟩ | ⟨e2, e3⟩
        · rw [noSt_y h3 h1 (rgN ha (by omega)), bnd_s, if_pos rfl, e2, bnd_s, if_neg ne10, bnd_s, show flt (-1) = 0 by decide]
        · rw [noSt_y h3 h1 (rgN ha (by omega)), bnd_s, if_pos rfl, e2, bnd_s, if_pos rfl, e3, bnd_s, if_neg (negle hr)]
    · have hrow : ∀ t, t < q → m 322 (60 * k + i + t) = tkn c (210 + k) i q 6 t := fun t ht => by rw [tkn_in ht]; exact e4 t ht
      have ew : wayF (fun t => m 322 (60 * k + i + t)) q = wayF (tkn c (210 + k) i q 6) q := wayF_cong hrow
      have preC : fX6_flow (nI a) (nI k) z (nI i) (nI q) c = bnd (B_X6_newFlow_45 (nI a) (nI q) (wayF (tkn c (210 + k) i q 6) q) (tkn c (210 + k) i q)) (fun (r1 : Int32) (s2 : Hp) => (bnd (fX6_ended r1 s2) (fun (r3 : Int32) (s4 : Hp) => some (r3, s4)))) := by
        unfold fX6_flow fX6_newFlow
        rw [has_y h2 h1 (rgN ha (by omega)), bnd_s, if_neg ne10, e1, bnd_s, if_pos rfl, wayC (by omega), bnd_s]
      rcases wayF_cases (tkn c (210 + k) i q 6) q with ⟨w0, w1, w2, w3, w4⟩ | ⟨w0, w1⟩
      · obtain ⟨hSt, hSh, hSe, N, hN, hC, hM, g4, g5, g6⟩ := h0
        have h0 : Rel0 c m n := ⟨hSt, hSh, hSe, N, hN, hC, hM, g4, g5, g6⟩
        have hF5 := hN.1
        have t25 : tkn c (210 + k) i q 2 5 = nI (nF N) := by rw [tkn_eq 2 5 (by unfold sC; omega)]; exact hC.1
        have ix : (60 : Int32) * nI k + nI i = nI (60 * k + i) := ix60
        by_cases hf : nF N < 5
        · refine ⟨nI (nF N), up2 (flC (tkn c (210 + k) i q) a (nF N) q) 0 8 0, up2 (flM m a (nF N) q (60 * k + i)) 300 0 0, ?_, ?_, flow_end h0 tkn_eq (by rw [tkn_07]; exact hT) ha hf hC.1 w1 w2 w3 w4 hrow⟩
          · rw [preC, w0]
            unfold B_X6_newFlow_45
            rw [if_pos rfl, isFull0 hF5 t25, if_pos hf, bnd_s, if_pos rfl, row_ok (by omega), bnd_s, addFlow_ok (by omega) hf w2 t25, bnd_s, bnd_s, ended_ok, bnd_s, fltN (by omega)]
          · unfold fX7_flow fX7_refused
            have q12 : up2 m 313 (nF N) (nI a) 300 12 = nI (nF N) := by rw [up2_o (by omega)]; exact hM.1
            have q12b : up2 (up2 m 313 (nF N) (nI a)) 314 (nF N) (nI q) 300 12 = nI (nF N) := by rw [up2_o (by omega)]; exact q12
            have ef : (fun t => up2 (up2 m 313 (nF N) (nI a)) 314 (nF N) (nI q) 322 (60 * k + i + t)) = fun t => m 322 (60 * k + i + t) := funext fun t => by rw [up2_o (by omega), up2_o (by omega)]
            rw [noSt_y h3 h1 (rgN ha (by omega)), bnd_s, if_pos rfl, e2, bnd_s, if_pos rfl, e3, bnd_s, if_pos (by decide), ix, wayM (by omega) (by omega), ew, w0, bnd_s, if_pos (by decide), hM.1, if_neg (by rw [show (5 : Int32) = nI 5 from rfl, eqN (by omega) (by omega)]; omega), gd_t (inbN hf (by omega)), nI_clamp (by omega), q12, gd_t (inbN hf (by omega)), nI_clamp (by omega), flow_in hf w2 (by omega) q12b, ef]
            show some ((seg (up2 (up2 m 313 (nF N) (nI a)) 314 (nF N) (nI q)) 315 (4 * nF N) (fun t => m 322 (60 * k + i + t)) q 300 12 + 1 |> fun x => up2 (seg (up2 (up2 m 313 (nF N) (nI a)) 314 (nF N) (nI q)) 315 (4 * nF N) (fun t => m 322 (60 * k + i + t)) q) 300 12 x 300 12 - 1), up2 (up2 (seg (up2 (up2 m 313 (nF N) (nI a)) 314 (nF N) (nI q)) 315 (4 * nF N) (fun t => m 322 (60 * k + i + t)) q) 300 12 (seg (up2 (up2 m 313 (nF N) (nI a)) 314 (nF N) (nI q)) 315 (4 * nF N) (fun t => m 322 (60 * k + i + t)) q 300 12 + 1)) 300 0 0) = _
            rw [seg_out (by omega), q12b, nI_1]
            show some (up2 (seg (up2 (up2 m 313 (nF N) (nI a)) 314 (nF N) (nI q)) 315 (4 * nF N) (fun t => m 322 (60 * k + i + t)) q) 300 12 (nI (nF N + 1)) 300 12 - 1, _) = _
            rw [up2_s, nIm1]
            rfl
        · refine ⟨-4, up2 (tkn c (210 + k) i q) 0 8 0, up2 m 300 0 0, ?_, ?_, Rel_end (tkn_eq.t (eqC.up (by unfold sC; omega))) (eqM.up (by unfold sM; omega)) h0 ?_ (by rw [up2_s, up2_s])⟩
          · rw [preC, w0]
            unfold B_X6_newFlow_45
            rw [if_pos rfl, isFull0 hF5 t25, if_neg hf, bnd_s, if_neg ne10, bnd_s, ended_ok, bnd_s, show flt (-4) = 0 by decide]
          · unfold fX7_flow fX7_refused
            rw [noSt_y h3 h1 (rgN ha (by omega)), bnd_s, if_pos rfl, e2, bnd_s, if_pos rfl, e3, bnd_s, if_pos (by decide), ix, wayM (by omega) (by omega), ew, w0, bnd_s, if_pos (by decide), hM.1, if_pos (by rw [show (5 : Int32) = nI 5 from rfl, eqN (by omega) (by omega)]; omega), bnd_s]
          · rw [up2_o (by omega), up2_o (by omega), tkn_07]
            exact hT
      · refine ⟨wayF (tkn c (210 + k) i q 6) q, up2 (tkn c (210 + k) i q) 0 8 0, up2 m 300 0 0, ?_, ?_, Rel_end (tkn_eq.t (eqC.up (by unfold sC; omega))) (eqM.up (by unfold sM; omega)) h0 ?_ (by rw [up2_s, up2_s])⟩
        · rw [preC]
          unfold B_X6_newFlow_45
          rw [if_neg (neg0 w0), bnd_s, ended_ok, bnd_s, w1]
        · unfold fX7_flow fX7_refused
          rw [noSt_y h3 h1 (rgN ha (by omega)), bnd_s, if_pos rfl, e2, bnd_s, if_pos rfl, e3, bnd_s, if_pos (by decide), ix60, wayM (by omega) (by omega), ew, bnd_s, if_neg (negle w0), wayM (by omega) (by omega), ew, bnd_s, bnd_s]
        · rw [up2_o (by omega), up2_o (by omega), tkn_07]
          exact hT
  · refine ⟨-1, _, _, ?_, ?_, Rel_fault (v := 0) hR⟩
    · unfold fX6_flow fX6_newFlow
      rw [has_n h2 h1 hx, bnd_s, if_pos rfl, bnd_s, ended_ok, bnd_s, show flt (-1) = 0 by decide]
    · unfold fX7_flow B_X7_flow_15 fX7_refused
      rw [noSt_n h3 h1 hx, bnd_s, if_neg ne10, bnd_s]
end B2
