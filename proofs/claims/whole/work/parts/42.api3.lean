/-! the rule, serving, flows read -/
def nC (b : Nat) : Prop := b = 2 ∨ b = 10 ∨ b = 12 ∨ b = 13 ∨ b = 17 ∨ (130 ≤ b ∧ b < 200)
def nM (b j : Nat) : Prop := (b = 300 ∧ (j = 12 ∨ j = 16)) ∨ b = 311 ∨ b = 313 ∨ b = 314 ∨ b = 315
def eqC2 (c d : Hp) : Prop := ∀ b j, ¬ sC b j → ¬ nC b → d b j = c b j
def eqM2 (c d : Hp) : Prop := ∀ b j, ¬ sM b j → ¬ nM b j → d b j = c b j
theorem Rest_keep {c d m k : Hp} {n : Nat} (hc : eqC2 c d) (hm : eqM2 m k) (h1 : RSt c m n) (h2 : RSh c m) (h3 : RSe c m) : RSt d k n ∧ RSh d k ∧ RSe d k := by
  refine ⟨?_, ?_, ?_⟩
  · obtain ⟨h1, h2, h3, h4⟩ := h1
    refine ⟨h1, by rw [hc 1 2 (by unfold sC; omega) (by unfold nC; omega)]; exact h2, by rw [hm 300 1 (by unfold sM; omega) (by unfold nM; omega)]; exact h3, fun f hf => ?_⟩
    obtain ⟨g1, g2, k0, g3, g4, g5⟩ := h4 f hf
    have e : d (100 + f) = c (100 + f) := funext fun j => hc _ _ (by unfold sC; omega) (by unfold nC; omega)
    refine ⟨by rw [e]; exact g1, fun t ht => ?_, k0, g3, by rw [hc 9 f (by unfold sC; omega) (by unfold nC; omega)]; exact g4, by rw [hm 302 f (by unfold sM; omega) (by unfold nM; omega)]; exact g5⟩
    rw [e, ← g2 t ht]
    exact hm _ _ (by unfold sM; omega) (by unfold nM; omega)
  · intro q hq
    obtain ⟨h1, h2⟩ := h2 q hq
    refine ⟨?_, by rw [hc 26 q (by unfold sC; omega) (by unfold nC; omega), hm 321 q (by unfold sM; omega) (by unfold nM; omega)]; exact h2⟩
    rw [hc 25 q (by unfold sC; omega) (by unfold nC; omega), hm 320 q (by unfold sM; omega) (by unfold nM; omega)]
    rcases h1 with h1 | ⟨n, g1, g2, g3, g4⟩
    · exact Or.inl h1
    · refine Or.inr ⟨n, g1, g2, g3, fun i hi => ?_⟩
      rw [hc (210 + q) i (by unfold sC; omega) (by unfold nC; omega), hm 322 (60 * q + i) (by unfold sM; omega) (by unfold nM; omega)]
      exact g4 i hi
  · obtain ⟨q, h1, h2, h3, h4, h5, h6⟩ := h3
    have e : d 22 = c 22 := funext fun j => hc _ _ (by unfold sC; omega) (by unfold nC; omega)
    refine ⟨q, h1, by rw [hc 3 2 (by unfold sC; omega) (by unfold nC; omega)]; exact h2, by rw [hm 300 19 (by unfold sM; omega) (by unfold nM; omega)]; exact h3, fun t ht => ?_, by rw [e]; exact h5, by rw [e]; exact h6⟩
    rw [e, ← h4 t ht]
    exact hm _ _ (by unfold sM; omega) (by unfold nM; omega)
section A3
variable {sg c m : Hp} {x y z : Int32}
theorem eqC2.up {b j : Nat} {v : Int32} (h : nC b) : eqC2 c (up2 c b j v) := fun a i _ hn => up2_o (Or.inl (fun e => hn (by rw [e]; exact h)))
theorem eqC2.t {d e : Hp} (h : eqC2 c d) (h2 : eqC2 d e) : eqC2 c e := fun b j n1 n2 => (h2 b j n1 n2).trans (h b j n1 n2)
theorem eqC2.fil {b : Nat} {F : Nat → Int32} {t : Nat} (h : nC b) : eqC2 c (fil c b F t) := fun a i _ hn => fil_out (Or.inl (fun e => hn (by rw [e]; exact h)))
theorem eqM2.up {b j : Nat} {v : Int32} (h : nM b j) : eqM2 c (up2 c b j v) := fun a i _ hn => up2_o (by
  by_cases e : a = b
  · by_cases e2 : i = j
    · rw [e, e2] at hn; exact absurd h hn
    · exact Or.inr e2
  · exact Or.inl e)
theorem alD {v : Nat} (h : v < 6) : alen tC (130 + v) = 41 := by
  have : ∀ i, i < 6 → alen tC (130 + i) = 41 := by decide +kernel
  exact this v h
theorem rule_st (h : Rel c m) : Sim (fX6_rule x) (fX7_rule x) c m := by
  have hR := h
  obtain ⟨⟨n, hSt, hSh, hSe, N, hN, hC, hM, g4, g5, g6⟩, hT, hF⟩ := h
  by_cases hx : 0 ≤ x.toInt ∧ x.toInt ≤ 2
  · obtain ⟨r, hr, rfl⟩ := upN (n := 2) (by omega) hx
    refine ⟨c 2 6, up2 (up2 c 2 6 (nI r)) 2 14 0, up2 m 300 16 (nI r), ?_, ?_, ?_⟩
    · unfold fX6_rule fX0_ruleBy
      rw [up_y hx, bnd_s, if_neg ne10, gd_t b01_0, bnd_s]
    · unfold fX7_rule
      rw [in_y (a := 0) (b := 2) hx, bnd_s, if_neg ne10, hC.2.1, hM.2.1]
    · obtain ⟨k1, k2, k3⟩ := Rest_keep (d := up2 (up2 c 2 6 (nI r)) 2 14 0) (k := up2 m 300 16 (nI r)) (eqC2.t (eqC2.up (by unfold nC; omega)) (eqC2.up (by unfold nC; omega))) (eqM2.up (by unfold nM; omega)) hSt hSh hSe
      refine ⟨⟨n, k1, k2, k3, (nF N, nL N, nN N, nO N, nS N, r), ⟨hN.1, by show r < 3; omega, hN.2.2⟩, ⟨?_, ?_, ?_, ?_⟩, ⟨?_, ?_, ?_, ?_⟩, ?_, ?_, ?_⟩, ?_, ?_⟩
      · rw [up2_o (by omega), up2_o (by omega)]; exact hC.1
      · rw [up2_o (by omega), up2_s]; rfl
      · intro w hw
        obtain ⟨⟨f, y1, y2, y3⟩, y4, y5, y6⟩ := hC.2.2.1 w hw
        refine ⟨⟨f, y1, by rw [up2_o (by omega), up2_o (by omega)]; exact y2, fun t ht => by rw [up2_o (by omega), up2_o (by omega)]; exact y3 t ht⟩, fun t ht => by rw [up2_o (by omega), up2_o (by omega)]; exact y4 t ht, by rw [up2_o (by omega), up2_o (by omega)]; exact y5, fun q hq => by rw [up2_o (by omega), up2_o (by omega)]; exact y6 q hq⟩
      · intro v hv
        rw [up2_o (by omega), up2_o (by omega)]
        rcases hC.2.2.2 v hv with y | ⟨f, y1, y2, y3, y4⟩
        · exact Or.inl y
        · exact Or.inr ⟨f, y1, y2, fun t ht => by rw [up2_o (by omega), up2_o (by omega)]; exact y3 t ht, fun t ht => by rw [up2_o (by omega), up2_o (by omega)]; exact y4 t ht⟩
      · rw [up2_o (by omega)]; exact hM.1
      · rw [up2_s]; rfl
      · intro w hw
        obtain ⟨⟨f, y1, y2, y3⟩, y5, y6⟩ := hM.2.2.1 w hw
        refine ⟨⟨f, y1, by rw [up2_o (by omega)]; exact y2, fun t ht => by unfold mr; rw [up2_o (by omega)]; exact y3 t ht⟩, by rw [up2_o (by omega)]; exact y5, fun q hq => by rw [up2_o (by omega)]; exact y6 q hq⟩
      · intro v hv
        rw [up2_o (by omega)]
        rcases hM.2.2.2 v hv with y | ⟨f, y1, y2, y3⟩
        · exact Or.inl y
        · exact Or.inr ⟨f, y1, y2, fun t ht => by unfold mr; rw [up2_o (by omega)]; exact y3 t ht⟩
      · intro w hw
        rw [up2_o (by omega), up2_o (by omega), up2_o (by omega)]; exact g4 w hw
      · intro v hv
        rw [up2_o (by omega), up2_o (by omega), up2_o (by omega)]; exact g5 v hv
      · exact Or.inl (by rw [up2_s])
      · rw [up2_o (by omega), up2_o (by omega), up2_o (by omega)]; exact hT
      · rw [up2_o (by omega), up2_o (by omega), up2_o (by omega)]; exact hF
  · refine ⟨-2, c, m, ?_, ?_, hR⟩
    · unfold fX6_rule
      rw [up_n hx, bnd_s, if_pos rfl]
    · unfold fX7_rule
      rw [in_n (a := 0) (b := 2) hx, bnd_s, if_pos rfl]
theorem noNode_y (hx : 0 ≤ x.toInt ∧ x.toInt < 6) : fX7_noNode x sg = some (0, sg) := by rw [noNode_ok, if_pos hx]
theorem noNode_n (hx : ¬ (0 ≤ x.toInt ∧ x.toInt < 6)) : fX7_noNode x sg = some (1, sg) := by rw [noNode_ok, if_neg hx]
theorem serve_st (h : Rel c m) : Sim (fX6_serve x y) (fX7_serve x y) c m := by
  have hR := h
  obtain ⟨⟨n, hSt, hSh, hSe, N, hN, hC, hM, g4, g5, g6⟩, hT, hF⟩ := h
  obtain ⟨h1, h2, h3, h4⟩ := hSt
  have hF5 := hN.1
  rcases arg_cases x (n := 6) (by omega) with ⟨v, hv, rfl⟩ | hx
  · have hup : 0 ≤ (nI v).toInt ∧ (nI v).toInt ≤ (5 : Int32).toInt := by
      have := rgN hv (by omega)
      rw [show (5 : Int32).toInt = 5 by decide]
      omega
    by_cases e9 : y = -9
    · subst e9
      refine ⟨c 10 v, up2 (up2 c 10 v (-9)) 2 14 0, up2 m 311 v (-9), ?_, ?_, ?_⟩
      · unfold fX6_serve B_X6_serve_27 B_X6_serve_71 fX0_serveNothing
        rw [up_y hup, bnd_s, if_neg ne10, if_pos rfl, gd_t (inbN hv (by omega)), if_pos rfl, gd_t (inbN hv (by omega)), gd_t b01_0, bnd_s, nI_clamp (by omega)]
      · unfold fX7_serve B_X7_serve_23
        rw [noNode_y (rgN (n := 6) hv (by omega)), bnd_s, if_pos rfl, if_pos rfl, gd_t (inbN hv (by omega)), gd_t (inbN hv (by omega)), nI_clamp (by omega), g5 v hv]
      · obtain ⟨k1, k2, k3⟩ := Rest_keep (d := up2 (up2 c 10 v (-9)) 2 14 0) (k := up2 m 311 v (-9)) (eqC2.t (eqC2.up (by unfold nC; omega)) (eqC2.up (by unfold nC; omega))) (eqM2.up (by unfold nM; omega)) ⟨h1, h2, h3, h4⟩ hSh hSe
        refine ⟨⟨n, k1, k2, k3, N, hN, ⟨?_, ?_, ?_, ?_⟩, ⟨?_, ?_, ?_, ?_⟩, ?_, ?_, ?_⟩, ?_, ?_⟩
        · rw [up2_o (by omega), up2_o (by omega)]; exact hC.1
        · rw [up2_o (by omega), up2_o (by omega)]; exact hC.2.1
        · intro w hw
          obtain ⟨⟨f, y1, y2, y3⟩, y4, y5, y6⟩ := hC.2.2.1 w hw
          refine ⟨⟨f, y1, by rw [up2_o (by omega), up2_o (by omega)]; exact y2, fun t ht => by rw [up2_o (by omega), up2_o (by omega)]; exact y3 t ht⟩, fun t ht => by rw [up2_o (by omega), up2_o (by omega)]; exact y4 t ht, by rw [up2_o (by omega), up2_o (by omega)]; exact y5, fun q hq => by rw [up2_o (by omega), up2_o (by omega)]; exact y6 q hq⟩
        · intro u hu
          rw [up2_o (by omega)]
          by_cases e : u = v
          · subst e; exact Or.inl (by rw [up2_s])
          · rw [up2_o (by omega)]
            rcases hC.2.2.2 u hu with y | ⟨f, y1, y2, y3, y4⟩
            · exact Or.inl y
            · exact Or.inr ⟨f, y1, y2, fun t ht => by rw [up2_o (by omega), up2_o (by omega)]; exact y3 t ht, fun t ht => by rw [up2_o (by omega), up2_o (by omega)]; exact y4 t ht⟩
        · rw [up2_o (by omega)]; exact hM.1
        · rw [up2_o (by omega)]; exact hM.2.1
        · intro w hw
          obtain ⟨⟨f, y1, y2, y3⟩, y5, y6⟩ := hM.2.2.1 w hw
          refine ⟨⟨f, y1, by rw [up2_o (by omega)]; exact y2, fun t ht => by unfold mr; rw [up2_o (by omega)]; exact y3 t ht⟩, by rw [up2_o (by omega)]; exact y5, fun q hq => by rw [up2_o (by omega)]; exact y6 q hq⟩
        · intro u hu
          by_cases e : u = v
          · subst e; exact Or.inl (by rw [up2_s])
          · rw [up2_o (by omega)]
            rcases hM.2.2.2 u hu with y | ⟨f, y1, y2, y3⟩
            · exact Or.inl y
            · exact Or.inr ⟨f, y1, y2, fun t ht => by unfold mr; rw [up2_o (by omega)]; exact y3 t ht⟩
        · intro w hw
          rw [up2_o (by omega), up2_o (by omega), up2_o (by omega)]; exact g4 w hw
        · intro u hu
          rw [up2_o (by omega)]
          by_cases e : u = v
          · subst e; rw [up2_s, up2_s]
          · rw [up2_o (by omega), up2_o (by omega)]; exact g5 u hu
        · exact Or.inl (by rw [up2_s])
        · rw [up2_o (by omega), up2_o (by omega), up2_o (by omega)]; exact hT
        · rw [up2_o (by omega), up2_o (by omega), up2_o (by omega)]; exact hF
    · rcases arg_cases y (n := n) (by omega) with ⟨i, hi, rfl⟩ | hy
      · obtain ⟨r1, r2, -⟩ := h4 i hi
        refine ⟨c 10 v, up2 (fil (up2 c 10 v (nI i)) (130 + v) ((up2 c 10 v (nI i)) (100 + i)) 41) 2 14 0, up2 m 311 v (nI i), ?_, ?_, ?_⟩
        · unfold fX6_serve B_X6_serve_27 B_X6_serve_71 fX0_serveBy
          rw [up_y hup, bnd_s, if_neg ne10, if_neg e9, has_y h2 h1 (rgN hi (by omega)), bnd_s, if_neg ne10, gd_t (inbN hv (by omega)), if_neg e9, row_ok (by omega), bnd_s, gd_t (inbN hv (by omega)), gd_t (inbN hv (by omega)), nI_clamp (by omega), fillSame_ok (alC (by omega)) (alD hv), bnd_s, gd_t b01_0, bnd_s]
        · unfold fX7_serve B_X7_serve_23
          rw [noNode_y (rgN (n := 6) hv (by omega)), bnd_s, if_pos rfl, if_neg e9, noSt_y h3 h1 (rgN hi (by omega)), bnd_s, if_pos rfl, gd_t (inbN hv (by omega)), gd_t (inbN hv (by omega)), nI_clamp (by omega), g5 v hv]
        · have erow : (up2 c 10 v (nI i)) (100 + i) = c (100 + i) := funext fun j => up2_o (by omega)
          rw [erow]
          generalize hd : up2 (fil (up2 c 10 v (nI i)) (130 + v) (c (100 + i)) 41) 2 14 0 = d
          have ec : ∀ b j, ¬ ((b = 130 + v) ∨ (b = 10 ∧ j = v) ∨ (b = 2 ∧ j = 14)) → d b j = c b j := fun b j hb => by
            rw [← hd, up2_o (by omega), fil_out (by omega), up2_o (by omega)]
          obtain ⟨k1, k2, k3⟩ := Rest_keep (d := d) (k := up2 m 311 v (nI i)) (fun b j q1 q2 => ec b j (by unfold nC at q2; omega)) (eqM2.up (by unfold nM; omega)) ⟨h1, h2, h3, h4⟩ hSh hSe
          refine ⟨⟨n, k1, k2, k3, (nF N, nL N, nN N, nO N, fun u => if u = v then c (100 + i) else nS N u, nR N), hN, ⟨?_, ?_, ?_, ?_⟩, ⟨?_, ?_, ?_, ?_⟩, ?_, ?_, ?_⟩, ?_, ?_⟩
          · rw [ec 2 5 (by omega)]; exact hC.1
          · rw [ec 2 6 (by omega)]; exact hC.2.1
          · intro w hw
            have hw5 : w < nF N := hw
            obtain ⟨⟨f, y1, y2, y3⟩, y4, y5, y6⟩ := hC.2.2.1 w hw
            refine ⟨⟨f, y1, by rw [ec 12 w (by omega)]; exact y2, fun t ht => by rw [ec (100 + f) t (by omega)]; exact y3 t ht⟩, fun t ht => by rw [ec (150 + 5 * w) t (by omega)]; exact y4 t ht, by rw [ec 13 w (by omega)]; exact y5, fun q hq => by rw [ec (140 + w) q (by omega)]; exact y6 q hq⟩
          · intro u hu
            by_cases e : u = v
            · subst e
              refine Or.inr ⟨i, hi, by rw [← hd, up2_o (by omega), fil_out (by omega), up2_s], fun t ht => ?_, fun t ht => ?_⟩
              · rw [ec (100 + i) t (by omega)]
                show _ = (if u = u then c (100 + i) else nS N u) t
                rw [if_pos rfl]
              · rw [← hd, up2_o (by omega), fil_in ht]
                show _ = (if u = u then c (100 + i) else nS N u) t
                rw [if_pos rfl]
            · rw [ec 10 u (by omega)]
              rcases hC.2.2.2 u hu with y | ⟨f, y1, y2, y3, y4⟩
              · exact Or.inl y
              · refine Or.inr ⟨f, y1, y2, fun t ht => ?_, fun t ht => ?_⟩
                · show _ = (if u = v then c (100 + i) else nS N u) t
                  rw [if_neg e, ec (100 + f) t (by omega)]; exact y3 t ht
                · show _ = (if u = v then c (100 + i) else nS N u) t
                  rw [if_neg e, ec (130 + u) t (by omega)]; exact y4 t ht
          · rw [up2_o (by omega)]; exact hM.1
          · rw [up2_o (by omega)]; exact hM.2.1
          · intro w hw
            obtain ⟨⟨f, y1, y2, y3⟩, y5, y6⟩ := hM.2.2.1 w hw
            refine ⟨⟨f, y1, by rw [up2_o (by omega)]; exact y2, fun t ht => by unfold mr; rw [up2_o (by omega)]; exact y3 t ht⟩, by rw [up2_o (by omega)]; exact y5, fun q hq => by rw [up2_o (by omega)]; exact y6 q hq⟩
          · intro u hu
            by_cases e : u = v
            · subst e
              refine Or.inr ⟨i, hi, by rw [up2_s], fun t ht => ?_⟩
              show _ = (if u = u then c (100 + i) else nS N u) t
              rw [if_pos rfl, ← r2 t ht]
              exact up2_o (by omega)
            · rw [up2_o (by omega)]
              rcases hM.2.2.2 u hu with y | ⟨f, y1, y2, y3⟩
              · exact Or.inl y
              · refine Or.inr ⟨f, y1, y2, fun t ht => ?_⟩
                show _ = (if u = v then c (100 + i) else nS N u) t
                rw [if_neg e, ← y3 t ht]
                exact up2_o (by omega)
          · intro w hw
            rw [ec 12 w (by omega), up2_o (by omega)]; exact g4 w hw
          · intro u hu
            by_cases e : u = v
            · subst e; rw [up2_s, ← hd, up2_o (by omega), fil_out (by omega), up2_s]
            · rw [up2_o (by omega), ec 10 u (by omega)]; exact g5 u hu
          · exact Or.inl (by rw [← hd, up2_s])
          · rw [ec 0 7 (by omega), up2_o (by omega)]; exact hT
          · rw [ec 0 8 (by omega), up2_o (by omega)]; exact hF
      · refine ⟨-1, c, m, ?_, ?_, hR⟩
        · unfold fX6_serve B_X6_serve_25
          rw [up_y hup, bnd_s, if_neg ne10, if_neg e9, has_n h2 h1 hy, bnd_s, if_pos rfl]
        · unfold fX7_serve B_X7_serve_21
          rw [noNode_y (rgN (n := 6) hv (by omega)), bnd_s, if_pos rfl, if_neg e9, noSt_n h3 h1 hy, bnd_s, if_neg ne10]
  · refine ⟨-1, c, m, ?_, ?_, hR⟩
    · unfold fX6_serve B_X6_serve_25
      rw [up_n (y := 5) (by rw [show (5 : Int32).toInt = 5 by decide]; omega), bnd_s, if_pos rfl]
    · unfold fX7_serve B_X7_serve_21
      rw [noNode_n hx, bnd_s, if_neg ne10]
theorem hasFlow_ok {F : Nat} (h : sg 2 5 = nI F) (hF : F ≤ 5) : fX0_hasFlow x sg = some (if 0 ≤ x.toInt ∧ x.toInt < F then 1 else 0, sg) := by
  unfold fX0_hasFlow B_X0_hasFlow_16 B_X0_hasFlow_17
  rw [h]
  simp only [fa_lt, fa_le, ti0, nI_toInt (show F < 2 ^ 31 by omega)]
  by_cases h1 : x.toInt < 0
  · rw [if_pos h1, if_neg (by omega)]; rfl
  · rw [if_neg h1]
    by_cases h2 : (F : Int) ≤ x.toInt
    · rw [if_pos h2, if_neg (by omega)]; rfl
    · rw [if_neg h2, if_pos (by omega)]; rfl
theorem hasPlace_y {F w l : Nat} (h : sg 2 5 = nI F) (hF : F ≤ 5) (hw : w < F) (hl : sg 13 w = nI l) (hl4 : l ≤ 4) : fX0_hasPlace (nI w) y sg = some (if 0 ≤ y.toInt ∧ y.toInt < l then 1 else 0, sg) := by
  unfold fX0_hasPlace B_X0_hasPlace_26 B_X0_hasPlace_27
  rw [hasFlow_ok h hF, if_pos (rgN hw (by omega)), bnd_s, if_neg ne10, gd_t (inbN (by omega) (by omega)), nI_clamp (by omega), hl]
  simp only [fa_lt, fa_le, ti0, nI_toInt (show l < 2 ^ 31 by omega)]
  by_cases h1 : y.toInt < 0
  · rw [if_pos h1, if_neg (by omega)]; rfl
  · rw [if_neg h1]
    by_cases h2 : (l : Int) ≤ y.toInt
    · rw [if_pos h2, if_neg (by omega)]; rfl
    · rw [if_neg h2, if_pos (by omega)]; rfl
theorem hasPlace_n {F : Nat} (h : sg 2 5 = nI F) (hF : F ≤ 5) (hx : ¬ (0 ≤ x.toInt ∧ x.toInt < F)) : fX0_hasPlace x y sg = some (0, sg) := by
  unfold fX0_hasPlace B_X0_hasPlace_26 B_X0_hasPlace_27
  rw [hasFlow_ok h hF, if_neg hx, bnd_s, if_pos rfl]
  rfl
theorem alW {w : Nat} (h : w < 5) : alen tC (140 + w) = 4 := by
  have : ∀ i, i < 5 → alen tC (140 + i) = 4 := by decide +kernel
  exact this w h
theorem i4 : (4 : Int32) = nI 4 := rfl
theorem ofFlow_st (h : Rel c m) : Sim (fX6_ofFlow x y) (fX7_ofFlow x y) c m := by
  have hR := h
  obtain ⟨⟨n, hSt, hSh, hSe, N, hN, hC, hM, g4, g5, g6⟩, hT, hF⟩ := h
  have hF5 := hN.1
  rcases arg_cases x (n := nF N) (by omega) with ⟨w, hw, rfl⟩ | hx
  · obtain ⟨⟨f, y1, y2, y3⟩, y4, y5, y6⟩ := hC.2.2.1 w hw
    obtain ⟨⟨f', z1, z2, z3⟩, z5, z6⟩ := hM.2.2.1 w hw
    obtain ⟨l1, l4, -⟩ := hN.2.2 w hw
    by_cases e0 : y = 0
    · subst e0
      refine ⟨c 12 w, c, m, ?_, ?_, hR⟩
      · unfold fX6_ofFlow
        rw [hasFlow_ok hC.1 hF5, if_pos (rgN hw (by omega)), bnd_s, if_neg ne10, if_pos rfl, gd_t (inbN (by omega) (by omega)), nI_clamp (by omega)]
      · unfold fX7_ofFlow B_X7_ofFlow_19 B_X7_ofFlow_38
        rw [noFlow_ok hM.1 (by omega), if_pos (rgN hw (by omega)), bnd_s, if_pos rfl, if_pos rfl, if_pos rfl, gd_t (inbN (by omega) (by omega)), nI_clamp (by omega), g4 w hw]
    · by_cases e1 : y = 1
      · subst e1
        refine ⟨c 13 w, c, m, ?_, ?_, hR⟩
        · unfold fX6_ofFlow
          rw [hasFlow_ok hC.1 hF5, if_pos (rgN hw (by omega)), bnd_s, if_neg ne10, if_neg e0, if_pos rfl, gd_t (inbN (by omega) (by omega)), nI_clamp (by omega)]
        · unfold fX7_ofFlow B_X7_ofFlow_19 B_X7_ofFlow_38
          rw [noFlow_ok hM.1 (by omega), if_pos (rgN hw (by omega)), bnd_s, if_pos rfl, if_neg e0, if_pos rfl, if_neg e0, gd_t (inbN (by omega) (by omega)), nI_clamp (by omega), y5, z5]
      · have e9 : ((9 : Int64) + (nI (nL N w)).toInt64).toInt = 9 + (nL N w : Int) := by
          have q1 : (9 : Int64).toInt = 9 := by decide
          rw [fb_addL]
          · rw [q1, t64, nI_toInt (by omega)]
          · rw [q1, t64, nI_toInt (by omega)]; omega
          · rw [q1, t64, nI_toInt (by omega)]; omega
        have e10 : (10 : Int64).toInt = 10 := by decide
        by_cases hy : 10 ≤ y.toInt ∧ y.toInt < 10 + (nL N w : Int)
        · obtain ⟨k, hk, rfl⟩ : ∃ k, k < nL N w ∧ y = nI (10 + k) := by
            rcases arg_cases y (n := 10 + nL N w) (by omega) with ⟨k, hk, e⟩ | hh
            · rw [e, nI_toInt (by omega)] at hy
              exact ⟨k - 10, by omega, by rw [e]; congr 1; omega⟩
            · omega
          have es : nI (10 + k) - 10 = nI k := by rw [i10, pk_sub (by omega)]; congr 1; omega
          refine ⟨c (140 + w) k, c, m, ?_, ?_, hR⟩
          · unfold fX6_ofFlow
            rw [hasFlow_ok hC.1 hF5, if_pos (rgN hw (by omega)), bnd_s, if_neg ne10, if_neg e0, if_neg e1, if_neg (by rw [i10, ltN (by omega) (by omega)]; omega), es, hasPlace_y hC.1 hF5 hw y5 l4, if_pos (rgN hk (by omega)), bnd_s, if_neg ne10, gd_t (inbN (by omega) (by omega)), nI_clamp (by omega), alW (by omega), gd_t (inbN (by omega) (by omega)), nI_clamp (by omega)]
          · unfold fX7_ofFlow B_X7_ofFlow_79
            have ei : (4 : Int32) * nI w + nI (10 + k) - 10 = nI (4 * w + k) := by rw [i4, i10, pk_mul, nI_add, pk_sub (by omega)]; congr 1; omega
            rw [noFlow_ok hM.1 (by omega), if_pos (rgN hw (by omega)), bnd_s, if_pos rfl, if_neg e0, if_neg e1, gd_t (inbN (by omega) (by omega)), nI_clamp (by omega), z5, in_ok, t64, e9, e10, if_pos (by rw [nI_toInt (by omega)]; omega), bnd_s, if_neg ne10, ei, gd_t (inbN (by omega) (by omega)), nI_clamp (by omega), y6 k hk, z6 k hk]
        · refine ⟨-2, c, m, ?_, ?_, hR⟩
          · unfold fX6_ofFlow B_X6_ofFlow_78
            rw [hasFlow_ok hC.1 hF5, if_pos (rgN hw (by omega)), bnd_s, if_neg ne10, if_neg e0, if_neg e1]
            by_cases hl : y.toInt < 10
            · rw [if_pos (by rw [fa_lt, show (10 : Int32).toInt = 10 by decide]; exact hl)]
            · have es : (y - 10).toInt = y.toInt - 10 := by
                have q1 : (10 : Int32).toInt = 10 := by decide
                have := fb_rng y
                rw [fb_subI]
                · rw [q1]
                · rw [q1]; omega
                · rw [q1]; omega
              rw [if_neg (by rw [fa_lt, show (10 : Int32).toInt = 10 by decide]; exact hl), hasPlace_y hC.1 hF5 hw y5 l4, if_neg (by rw [es]; omega), bnd_s, if_pos rfl]
          · unfold fX7_ofFlow B_X7_ofFlow_79
            rw [noFlow_ok hM.1 (by omega), if_pos (rgN hw (by omega)), bnd_s, if_pos rfl, if_neg e0, if_neg e1, gd_t (inbN (by omega) (by omega)), nI_clamp (by omega), z5, in_ok, t64, e9, e10, if_neg (by omega), bnd_s, if_pos rfl]
  · refine ⟨-1, c, m, ?_, ?_, hR⟩
    · unfold fX6_ofFlow
      rw [hasFlow_ok hC.1 hF5, if_neg hx, bnd_s, if_pos rfl]
    · unfold fX7_ofFlow
      rw [noFlow_ok hM.1 (by omega), if_neg hx, bnd_s, if_neg ne10]
end A3
