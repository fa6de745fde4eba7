/-! the network's questions -/
section C7
variable {sg c m : Hp} {x y z u : Int32}
theorem Rel_net {d k : Hp} {N : NT} {n : Nat} (hSt : RSt c m n) (hSh : RSh c m) (hSe : RSe c m) (hN : wfN N) (hC : netC c N n) (hM : netM m N n) (g4 : ∀ w, w < nF N → c 12 w = m 313 w) (g5 : ∀ v, v < 6 → c 10 v = m 311 v) (ht : c 0 7 = m 300 24) (hf : c 0 8 = m 300 0) (hW : eqW c d) (hV : eqV m k) (hfr : freshC d N) : Rel d k := by
  have hF := hN.1
  have hn24 := hSt.1
  have rest := Rest_keep (c := c) (d := d) (m := m) (k := k) (fun b j h1 h2 => hW b j (by unfold sC at h1; unfold nC at h2; unfold wC; omega)) (fun b j h1 h2 => hV b j (by unfold sM at h1; unfold wM; omega)) hSt hSh hSe
  obtain ⟨a1, a2, a3, a4⟩ := hC
  obtain ⟨b1, b2, b3, b4⟩ := hM
  refine ⟨⟨n, rest.1, rest.2.1, rest.2.2, N, hN, ⟨?_, ?_, fun w hw => ?_, fun v hv => ?_⟩, ⟨?_, ?_, fun w hw => ?_, fun v hv => ?_⟩, fun w hw => ?_, fun v hv => ?_, hfr⟩, ?_, ?_⟩
  · rw [hW 2 5 (by unfold wC; omega)]; exact a1
  · rw [hW 2 6 (by unfold wC; omega)]; exact a2
  · obtain ⟨⟨f, y1, y2, y3⟩, y4, y5, y6⟩ := a3 w hw
    refine ⟨⟨f, y1, by rw [hW 12 w (by unfold wC; omega)]; exact y2, fun t ht => by rw [hW _ _ (by unfold wC; omega)]; exact y3 t ht⟩, fun t ht => by rw [hW _ _ (by unfold wC; omega)]; exact y4 t ht, by rw [hW 13 w (by unfold wC; omega)]; exact y5, fun x hx => by rw [hW (140 + w) x (by unfold wC; omega)]; exact y6 x hx⟩
  · rw [hW 10 v (by unfold wC; omega)]
    rcases a4 v hv with y | ⟨f, y1, y2, y3, y4⟩
    · exact Or.inl y
    · exact Or.inr ⟨f, y1, y2, fun t ht => by rw [hW _ _ (by unfold wC; omega)]; exact y3 t ht, fun t ht => by rw [hW _ _ (by unfold wC; omega)]; exact y4 t ht⟩
  · rw [hV 300 12 (by unfold wM; omega)]; exact b1
  · rw [hV 300 16 (by unfold wM; omega)]; exact b2
  · obtain ⟨⟨f, y1, y2, y3⟩, y5, y6⟩ := b3 w hw
    exact ⟨⟨f, y1, by rw [hV 313 w (by unfold wM; omega)]; exact y2, (mr_kp hV (by omega)).trans y3⟩, by rw [hV 314 w (by unfold wM; omega)]; exact y5, fun x hx => by rw [hV 315 (4 * w + x) (by unfold wM; omega)]; exact y6 x hx⟩
  · rw [hV 311 v (by unfold wM; omega)]
    rcases b4 v hv with y | ⟨f, y1, y2, y3⟩
    · exact Or.inl y
    · exact Or.inr ⟨f, y1, y2, (mr_kp hV (by omega)).trans y3⟩
  · rw [hW 12 w (by unfold wC; omega), hV 313 w (by unfold wM; omega)]; exact g4 w hw
  · rw [hW 10 v (by unfold wC; omega), hV 311 v (by unfold wM; omega)]; exact g5 v hv
  · rw [hW 0 7 (by unfold wC; omega), hV 300 24 (by unfold wM; omega)]; exact ht
  · rw [hW 0 8 (by unfold wC; omega), hV 300 0 (by unfold wM; omega)]; exact hf
theorem stC_of {N : NT} {n : Nat} (hSt : RSt c m n) (hN : wfN N) (hC : netC c N n) : stC c N := by
  refine ⟨hN, hC.1, hC.2.1, fun w hw => ?_, fun v hv h9 => ?_⟩
  · obtain ⟨-, y4, y5, y6⟩ := hC.2.2.1 w hw
    exact ⟨y5, y6, y4⟩
  · rcases hC.2.2.2 v hv with y | ⟨f, y1, y2, y3, y4⟩
    · exact absurd y h9
    · exact ⟨y4, okRow_req y3 (hSt.2.2.2 f y1).1⟩
theorem stM_of {N : NT} {n : Nat} (hSt : RSt c m n) (hN : wfN N) (hM : netM m N n) : stM m N := by
  have hn := hSt.1
  refine ⟨hN, hM.1, hM.2.1, fun w hw => ?_, fun v hv h9 => ?_⟩
  · obtain ⟨⟨f, y1, y2, y3⟩, y5, y6⟩ := hM.2.2.1 w hw
    exact ⟨y5, y6, f, by omega, y2, y3⟩
  · rcases hM.2.2.2 v hv with y | ⟨f, y1, y2, y3⟩
    · exact absurd y h9
    · obtain ⟨r1, r2, -⟩ := hSt.2.2.2 f y1
      exact ⟨f, by omega, y2, y3, okRow_req (fun t ht => ((r2 t ht).symm).trans (y3 t ht)) r1⟩
theorem ring_st (h : Rel c m) : Sim fX6_ring fX7_ring c m := by
  have hR := h
  obtain ⟨⟨n, hSt, hSh, hSe, N, hN, hC, hM, g4, g5, g6⟩, hT, hF⟩ := h
  have sC' := stC_of hSt hN hC
  have sM' := stM_of hSt hN hM
  obtain ⟨r, d, d1, d2, d3⟩ := ringC sC'
  have e := rounds_ok sM'
  have hR2 : Rel d (S317 m (rnds N).2) := Rel_end (n := n) (c := c) (m := m) (fun b j hb => d2 b j (fun q => hb (by unfold sC; omega)) (fun q => hb (by unfold sC; omega))) (fun b j hb => eqV.fil b j (fun q => hb (by unfold wM at q; unfold sM; omega))) ⟨hSt, hSh, hSe, N, hN, hC, hM, g4, g5, g6⟩ (by rw [d2 0 7 (by omega) (by omega)]; unfold S317; rw [fil_out (by omega)]; exact hT) (by rw [d2 0 8 (by omega) (by omega)]; unfold S317; rw [fil_out (by omega)]; exact hF)
  rcases d3 with ⟨rfl, ρ, hr⟩ | ⟨rfl, hr⟩
  · refine ⟨0, d, S317 m (rnds N).2, d1, ?_, hR2⟩
    unfold fX7_ring B_X7_ring_12
    rw [e, (rnds_yes hN hr).1, bnd_s, if_neg (by decide)]
  · refine ⟨1, d, S317 m (rnds N).2, d1, ?_, hR2⟩
    have hq : (rnds N).1 = false := by
      cases hq : (rnds N).1 with
      | false => rfl
      | true => exact absurd ⟨_, rnds_rnk hq⟩ hr
    unfold fX7_ring B_X7_ring_12
    rw [e, hq, bnd_s, if_pos (by decide)]
def pairOk (d k : Hp) (N : NT) : Prop := ∀ w x, w < nF N → x < nL N w → req (coC d w x) (coM k w x) ∧ req (d (180 + (4 * w + x))) (haM k w x) ∧ d 17 (4 * w + x) = k 318 (4 * w + x) ∧ req (d (150 + (5 * w + (x + 1)))) (goM k w x) ∧ okRow (coM k w x) ∧ okRow (haM k w x)
theorem ok_ha {N : NT} {co : Nat → Nat → Nat → Int32} {w x : Nat} (hw : w < nF N) (hS : okRow (nS N (nN N w x))) (hco : ∀ w' x', w' < nF N → x' < nL N w' → nN N w' x' = nN N w x → okRow (co w' x')) : okRow (haOf N co w x) := by
  unfold haOf
  by_cases hr : nR N = 2
  · rw [if_pos hr]; exact hS
  · rw [if_neg hr]
    refine ok_left hS (ok_smC hco ?_)
    by_cases h0 : nR N = 0
    · rw [if_pos h0]; omega
    · rw [if_neg h0]; exact Nat.le_refl _
theorem net_pair (h : Rel c m) : ∃ (N : NT) (d : Hp) (r : Int32), stC c N ∧ stM m N ∧ (∀ w, w < nF N → c 12 w = m 313 w) ∧ (∀ v, v < 6 → c 10 v = m 311 v) ∧ fX0_isBounded c = some (r, d) ∧ stC d N ∧ eqW c d ∧ (∀ k, eqV m k → Rel d k) ∧ ∃ k, fX7_layAll m = some (r, k) ∧ eqV m k ∧ stM k N ∧ (r = 0 ∨ (r = 1 ∧ pairOk d k N)) := by
  obtain ⟨⟨n, hSt, hSh, hSe, N, hN, hC, hM, g4, g5, g6⟩, hT, hF⟩ := h
  have sC' := stC_of hSt hN hC
  have sM' := stM_of hSt hN hM
  obtain ⟨r, d, d1, d2, d3, d4⟩ := bounded_ok sC' g6
  obtain ⟨r', k, k1, k2, k3⟩ := allM sM'
  have uns : unserved d N ↔ unsM m N := by
    rw [uns_kpW d2]
    constructor
    · rintro ⟨w, x, q1, q2, q3⟩
      exact ⟨w, x, q1, q2, by rw [← g5 _ ((hN.2.2 w q1).2.2.1 x q2)]; exact q3⟩
    · rintro ⟨w, x, q1, q2, q3⟩
      exact ⟨w, x, q1, q2, by rw [g5 _ ((hN.2.2 w q1).2.2.1 x q2)]; exact q3⟩
  have hRel : ∀ k, eqV m k → Rel d k := fun k hk => Rel_net hSt hSh hSe hN hC hM g4 g5 hT hF d2 hk d3
  have key : r = r' ∧ (r = 0 ∨ (r = 1 ∧ pairOk d k N)) := by
    rcases d4 with ⟨rfl, e4⟩ | ⟨rfl, ⟨ρ, hr⟩, e5, e6, e7⟩
    · rcases k3 with ⟨rfl, -⟩ | ⟨rfl, ⟨ρ, hr⟩, f5, f6, f7⟩
      · exact ⟨rfl, Or.inl rfl⟩
      · exfalso
        rcases e4 with e4 | e4 | ⟨-, e4⟩
        · exact e4 ⟨ρ, hr⟩
        · exact f5 ((unsM_kp k2).2 (uns.1 e4))
        · exact N_excl hr f6 e4
    · rcases k3 with ⟨rfl, e4⟩ | ⟨rfl, -, f5, f6, f7⟩
      · exfalso
        rcases e4 with e4 | e4 | ⟨-, e4⟩
        · exact e4 ⟨ρ, hr⟩
        · exact e5 (uns.2 e4)
        · exact N_excl hr e6 e4
      · refine ⟨rfl, Or.inr ⟨rfl, fun w x hw hx => ?_⟩⟩
        have sk := stM_kp sM' k2
        obtain ⟨p1, p2, p3⟩ := e7 w x hw hx
        obtain ⟨q1, q2, q3, q4⟩ := f7 w x hw hx
        obtain ⟨a1, a2, a3, a4⟩ := CE_la hr (fun _ _ _ _ _ => trivial) e6.1 f6.1 hw hx trivial
        obtain ⟨f, -, -, -, okS⟩ := sk.2.2.2.2 _ ((hN.2.2 w hw).2.2.1 x hx) (fun q => f5 ⟨w, x, hw, hx, q⟩)
        refine ⟨a4, p1.trans (a2.trans q1.symm), by rw [p2, q2, a1], p3.trans (a3.trans q3.symm), q4, okRow_req q1.symm (ok_ha hw okS (fun w' x' h1 h2 _ => (f7 w' x' h1 h2).2.2.2))⟩
  obtain ⟨rfl, key⟩ := key
  exact ⟨N, d, r, sC', sM', g4, g5, d1, stC_kp sC' d2, d2, hRel, k, k1, k2, stM_kp sM' k2, key⟩
theorem noStep_y {N : NT} {w : Nat} (h : stM sg N) (hw : w < nF N) : fX7_noStep (nI w) y sg = some (if 0 ≤ y.toInt ∧ y.toInt < nL N w then 0 else 1, sg) := by
  have hF := h.1.1
  obtain ⟨l1, l2, -⟩ := h.1.2.2 w hw
  obtain ⟨g1, -⟩ := h.2.2.2.1 w hw
  unfold fX7_noStep B_X7_noStep_26 B_X7_noStep_31
  rw [noFlow_ok h.2.1 (by omega), if_pos (rgN hw (by omega)), bnd_s, if_pos rfl, gd_t (inbN (by omega) (by omega)), nI_clamp (by omega), g1, in_ok, t64, cnt64 (by omega), show (0 : Int64).toInt = 0 by decide]
  by_cases e : 0 ≤ y.toInt ∧ y.toInt < nL N w
  · rw [if_pos (by omega), if_pos e, bnd_s, if_neg ne10]; rfl
  · rw [if_neg (by omega), if_neg e, bnd_s, if_pos rfl]; rfl
theorem noStep_n {N : NT} (h : stM sg N) (hx : ¬ (0 ≤ x.toInt ∧ x.toInt < nF N)) : fX7_noStep x y sg = some (1, sg) := by
  have hF := h.1.1
  unfold fX7_noStep B_X7_noStep_26 B_X7_noStep_31
  rw [noFlow_ok h.2.1 (by omega), if_neg hx, bnd_s, if_neg ne10]
  rfl
theorem place_cases {N : NT} (hC : stC c N) (hM : stM m N) (x y : Int32) : (∃ w p, w < nF N ∧ p < nL N w ∧ x = nI w ∧ y = nI p ∧ fX0_hasPlace x y c = some (1, c) ∧ fX7_noStep x y m = some (0, m)) ∨ (fX0_hasPlace x y c = some (0, c) ∧ fX7_noStep x y m = some (1, m)) := by
  have hF := hC.1.1
  rcases arg_cases x (n := nF N) (by omega) with ⟨w, hw, rfl⟩ | hx
  · obtain ⟨l1, l2, -⟩ := hC.1.2.2 w hw
    have g1 := (hC.2.2.2.1 w hw).1
    rcases arg_cases y (n := nL N w) (by omega) with ⟨p, hp, rfl⟩ | hy
    · refine Or.inl ⟨w, p, hw, hp, rfl, rfl, ?_, ?_⟩
      · rw [hasPlace_y hC.2.1 hF hw g1 l2, if_pos (rgN hp (by omega))]
      · rw [noStep_y hM hw, if_pos (rgN hp (by omega))]
    · refine Or.inr ⟨?_, ?_⟩
      · rw [hasPlace_y hC.2.1 hF hw g1 l2, if_neg hy]
      · rw [noStep_y hM hw, if_neg hy]
  · exact Or.inr ⟨hasPlace_n hC.2.1 hF hx, noStep_n hM hx⟩
theorem latest_st (h : Rel c m) : Sim (fX6_latest x y) (fX7_latest x y) c m := by
  obtain ⟨N, d, r, sC', sM', g4, g5, d1, sD, dW, hRel, k, k1, kV, sK, key⟩ := net_pair h
  have hF := sC'.1.1
  rcases place_cases sC' sM' x y with ⟨w, p, hw, hp, rfl, rfl, e1, e2⟩ | ⟨e1, e2⟩
  · obtain ⟨l1, l2, -⟩ := sC'.1.2.2 w hw
    rcases key with rfl | ⟨rfl, ok⟩
    · refine ⟨-3, d, k, ?_, ?_, hRel k kV⟩
      · unfold fX6_latest
        rw [e1, bnd_s, if_neg ne10, d1, bnd_s, if_pos rfl]
      · unfold fX7_latest B_X7_latest_33
        rw [e2, bnd_s, if_pos rfl, k1, bnd_s, if_pos rfl]
    · refine ⟨d 17 (4 * w + p), d, k, ?_, ?_, hRel k kV⟩
      · unfold fX6_latest fX0_latestAt
        rw [e1, bnd_s, if_neg ne10, d1, bnd_s, if_neg ne10, i4, pk_mul, nI_add, gd_t (inbN (by omega) (by omega)), nI_clamp (by omega), bnd_s, Nat.mul_comm w 4]
      · unfold fX7_latest B_X7_latest_33
        rw [e2, bnd_s, if_pos rfl, k1, bnd_s, if_neg ne10, i4, pk_mul, nI_add, gd_t (inbN (by omega) (by omega)), nI_clamp (by omega), (ok w p hw hp).2.2.1]
  · refine ⟨-1, c, m, ?_, ?_, h⟩
    · unfold fX6_latest
      rw [e1, bnd_s, if_pos rfl]
    · unfold fX7_latest
      rw [e2, bnd_s, if_neg ne10]
theorem there_st (h : Rel c m) : Sim (fX6_there x y z u) (fX7_there x y z u) c m := by
  obtain ⟨N, d, r, sC', sM', g4, g5, d1, sD, dW, hRel, k, k1, kV, sK, key⟩ := net_pair h
  have hF := sC'.1.1
  rcases place_cases sC' sM' x y with ⟨w, p, hw, hp, rfl, rfl, e1, e2⟩ | ⟨e1, e2⟩
  · obtain ⟨l1, l2, -⟩ := sC'.1.2.2 w hw
    by_cases hz : 0 ≤ z.toInt ∧ z.toInt ≤ 2
    · by_cases hu : 0 ≤ u.toInt ∧ u.toInt ≤ 40
      · rcases key with rfl | ⟨rfl, ok⟩
        · refine ⟨-3, d, k, ?_, ?_, hRel k kV⟩
          · unfold fX6_there
            rw [e1, bnd_s, if_neg ne10, up_y hz, bnd_s, if_neg ne10, up_y hu, bnd_s, if_neg ne10, d1, bnd_s, if_pos rfl]
          · unfold fX7_there
            rw [e2, bnd_s, if_pos rfl, in_y (a := 0) (b := 2) hz, bnd_s, if_neg ne10, in_y (a := 0) (b := 40) hu, bnd_s, if_neg ne10, k1, bnd_s, if_pos rfl]
        · obtain ⟨t, ht, rfl⟩ := upN (n := 40) (x := u) (by omega) hu
          obtain ⟨q, hq, rfl⟩ := upN (n := 2) (x := z) (by omega) hz
          obtain ⟨o1, o2, o3, o4, -⟩ := ok w p hw hp
          have preC : fX6_there (nI w) (nI p) (nI q) (nI t) c = if q = 0 then some (d (150 + (5 * w + p)) t, d) else if q = 1 then some (d (180 + (4 * w + p)) t, d) else some (d (150 + (5 * w + (p + 1))) t, d) := by
            unfold fX6_there B_X6_there_97
            rw [e1, bnd_s, if_neg ne10, up_y hz, bnd_s, if_neg ne10, up_y hu, bnd_s, if_neg ne10, d1, bnd_s, if_neg ne10, comes_ok (by omega) (by omega), bnd_s, hasAt_ok (by omega) (by omega), bnd_s, goes_ok (by omega) (by omega), bnd_s, alX (by omega), alH (by omega), alX (by omega), gd_t (inbN (by omega) (by omega)), nI_clamp (by omega)]
            by_cases q0 : q = 0
            · rw [if_pos (by rw [q0]; rfl), if_pos q0]
            · rw [if_neg (by rw [i0, eqN (by omega) (by omega)]; exact q0), if_neg q0]
              by_cases q1 : q = 1
              · rw [if_pos (by rw [q1]; rfl), if_pos q1, gd_t (inbN (by omega) (by omega))]
              · rw [if_neg (by rw [i1, eqN (by omega) (by omega)]; exact q1), if_neg q1, gd_t (inbN (by omega) (by omega))]
          have preM : fX7_there (nI w) (nI p) (nI q) (nI t) m = if q = 0 then some (coM k w p t, k) else if q = 1 then some (haM k w p t, k) else some (goM k w p t, k) := by
            unfold fX7_there B_X7_there_71
            have ex : ∀ a : Nat, nI a + 4 * nI w + nI p = nI (a + (4 * w + p)) := fun a => by rw [i4, pk_mul, nI_add, nI_add, Nat.add_assoc]
            rw [e2, bnd_s, if_pos rfl, in_y (a := 0) (b := 2) hz, bnd_s, if_neg ne10, in_y (a := 0) (b := 40) hu, bnd_s, if_neg ne10, k1, bnd_s, if_neg ne10, show (24 : Int32) = nI 24 from rfl, show (44 : Int32) = nI 44 from rfl, show (64 : Int32) = nI 64 from rfl, ex, ex, ex, of_ok (by omega) (by omega), of_ok (by omega) (by omega), of_ok (by omega) (by omega), bnd_s, bnd_s, bnd_s]
            by_cases q0 : q = 0
            · rw [if_pos (by rw [q0]; rfl), if_pos q0]; rfl
            · rw [if_neg (by rw [i0, eqN (by omega) (by omega)]; exact q0), if_neg q0]
              by_cases q1 : q = 1
              · rw [if_pos (by rw [q1]; rfl), if_pos q1]; rfl
              · rw [if_neg (by rw [i1, eqN (by omega) (by omega)]; exact q1), if_neg q1]; rfl
          by_cases q0 : q = 0
          · exact ⟨coM k w p t, d, k, by rw [preC, if_pos q0, ← o1 t (by omega)]; rfl, by rw [preM, if_pos q0], hRel k kV⟩
          · by_cases q1 : q = 1
            · exact ⟨haM k w p t, d, k, by rw [preC, if_neg q0, if_pos q1, o2 t (by omega)], by rw [preM, if_neg q0, if_pos q1], hRel k kV⟩
            · exact ⟨goM k w p t, d, k, by rw [preC, if_neg q0, if_neg q1, o4 t (by omega)], by rw [preM, if_neg q0, if_neg q1], hRel k kV⟩
      · refine ⟨-2, c, m, ?_, ?_, h⟩
        · unfold fX6_there B_X6_there_32
          rw [e1, bnd_s, if_neg ne10, up_y hz, bnd_s, if_neg ne10, up_n hu, bnd_s, if_pos rfl]
        · unfold fX7_there B_X7_there_36
          rw [e2, bnd_s, if_pos rfl, in_y (a := 0) (b := 2) hz, bnd_s, if_neg ne10, in_n (a := 0) (b := 40) hu, bnd_s, if_pos rfl]
    · refine ⟨-2, c, m, ?_, ?_, h⟩
      · unfold fX6_there B_X6_there_32
        rw [e1, bnd_s, if_neg ne10, up_n hz, bnd_s, if_pos rfl]
      · unfold fX7_there B_X7_there_36
        rw [e2, bnd_s, if_pos rfl, in_n (a := 0) (b := 2) hz, bnd_s, if_pos rfl]
  · refine ⟨-1, c, m, ?_, ?_, h⟩
    · unfold fX6_there
      rw [e1, bnd_s, if_pos rfl]
    · unfold fX7_there
      rw [e2, bnd_s, if_neg ne10]
theorem Rel_scr {d k : Hp} (h : Rel c m) (hc : eqC c d) (hm : eqM m k) (h7 : d 0 7 = c 0 7) (h8 : d 0 8 = c 0 8) (k7 : k 300 24 = m 300 24) (k8 : k 300 0 = m 300 0) : Rel d k := by
  obtain ⟨⟨n, h0⟩, hT, hF⟩ := h
  exact Rel_end hc hm h0 (by rw [h7, k7]; exact hT) (by rw [h8, k8]; exact hF)
theorem heapAt_st (h : Rel c m) : Sim (fX6_heapAt x) (fX7_heapAt x) c m := by
  obtain ⟨N, d, r, sC', sM', g4, g5, d1, sD, dW, hRel, k, k1, kV, sK, key⟩ := net_pair h
  have hF := sC'.1.1
  have l5 : (5 : Int32).toInt = 5 := by decide
  rcases arg_cases x (n := 6) (by omega) with ⟨v, hv, rfl⟩ | hx
  · have hv5 : 0 ≤ (nI v).toInt ∧ (nI v).toInt ≤ (5 : Int32).toInt := by
      rw [l5, nI_toInt (by omega)]; omega
    have hv6 : 0 ≤ (nI v).toInt ∧ (nI v).toInt < 6 := rgN (n := 6) hv (by omega)
    by_cases h9 : c 10 v = -9
    · refine ⟨-3, c, m, ?_, ?_, h⟩
      · unfold fX6_heapAt B_X6_heapAt_34
        rw [up_y hv5, bnd_s, if_neg ne10, gd_t (inbN hv (by omega)), nI_clamp (by omega), if_pos h9]
      · unfold fX7_heapAt B_X7_heapAt_25
        rw [noNode_y hv6, bnd_s, if_pos rfl, gd_t (inbN hv (by omega)), nI_clamp (by omega), if_pos (by rw [m311 sM' hv, ← g5 v hv]; exact h9)]
    · have n9 : ¬ m 311 v = -9 := by rw [← g5 v hv]; exact h9
      rcases key with rfl | ⟨rfl, ok⟩
      · refine ⟨-3, d, k, ?_, ?_, hRel k kV⟩
        · unfold fX6_heapAt B_X6_heapAt_34
          rw [up_y hv5, bnd_s, if_neg ne10, gd_t (inbN hv (by omega)), nI_clamp (by omega), if_neg h9, d1, bnd_s, if_pos rfl]
        · unfold fX7_heapAt B_X7_heapAt_25
          rw [noNode_y hv6, bnd_s, if_pos rfl, gd_t (inbN hv (by omega)), nI_clamp (by omega), if_neg (by rw [m311 sM' hv]; exact n9), k1, bnd_s, if_pos rfl]
      · have d9 : d 10 v ≠ -9 := by rw [dW 10 v (by unfold wC; omega)]; exact h9
        have k9 : k 311 v ≠ -9 := by rw [kV 311 v (by unfold wM; omega)]; exact n9
        obtain ⟨s1, s2⟩ := sD.2.2.2.2 v hv d9
        obtain ⟨f, t1, t2, t3, t4⟩ := sK.2.2.2.2 v hv k9
        have ag : agr N (coC d) (coM k) v := fun w' x' h1 h2 _ => (ok w' x' h1 h2).1
        have esm : req (smC N (coC d) v none (nF N)) (smC N (coM k) v none (nF N)) := smC_cong ag (Nat.le_refl _)
        refine ⟨sHeap (smC N (coM k) v none (nF N)) (nS N v), fil d 20 (smC N (coC d) v none (nF N)) 41, filM k 84 (smC N (coM k) v none (nF N)) 41, ?_, ?_, Rel_scr (hRel k kV) (eqC.fil (fun j => by unfold sC; omega)) (eqM.filM (by omega) (by omega) (by omega)) (by rw [fil_out (by omega)]) (by rw [fil_out (by omega)]) (by rw [filM_o (by omega)]) (by rw [filM_o (by omega)])⟩
        · unfold fX6_heapAt fX0_greatestHeapIn
          rw [up_y hv5, bnd_s, if_neg ne10, gd_t (inbN hv (by omega)), nI_clamp (by omega), if_neg h9, d1, bnd_s, if_neg ne10, sD.2.1, sumC sD hv (Nat.le_refl _) but9, bnd_s, gd_t (inbN hv (by omega)), heap_ok a20 (alD hv), bnd_s, bnd_s, sHeap_cong (f2 := smC N (coM k) v none (nF N)) (g2 := nS N v) (fun t ht => by rw [fil_in ht]; exact esm t ht) (fun t ht => by rw [fil_out (by omega)]; exact s1 t ht)]
        · unfold fX7_heapAt
          have k2 : filM k 84 (smC N (coM k) v none (nF N)) 41 311 v = nI f := by rw [filM_o (by omega)]; exact t2
          rw [noNode_y hv6, bnd_s, if_pos rfl, gd_t (inbN hv (by omega)), nI_clamp (by omega), if_neg (by rw [m311 sM' hv]; exact n9), k1, bnd_s, if_neg ne10, sK.2.1, sumM sK hv (Nat.le_refl _) but9, bnd_s, gd_t (inbN hv (by omega)), k2, show (84 : Int32) = nI 84 from rfl, heapOf_ok (by omega) (by omega), bnd_s, sHeap_cong (f2 := smC N (coM k) v none (nF N)) (g2 := nS N v) (fun t ht => by rw [filM_in ht (by omega) ht]) (fun t ht => by rw [filM_out ht (by omega) (by omega)]; exact t3 t ht)]
  · refine ⟨-1, c, m, ?_, ?_, h⟩
    · unfold fX6_heapAt
      rw [up_n (by rw [l5]; omega), bnd_s, if_pos rfl]
    · unfold fX7_heapAt
      rw [noNode_n (by omega), bnd_s, if_neg ne10]
end C7
