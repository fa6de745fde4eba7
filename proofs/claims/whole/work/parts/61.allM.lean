section C6
variable {sg c m : Hp} {N : NT}
def finM (sg : Hp) (N : NT) (w x : Nat) : Prop := req (coM sg w x) (if x = 0 then nO N w else goOf N (coM sg) w (x - 1)) ∧ req (haM sg w x) (haOf N (coM sg) w x) ∧ sg 318 (4 * w + x) = laOf N (coM sg) w x ∧ laOf N (coM sg) w x ≠ -9 ∧ req (goM sg w x) (goOf N (coM sg) w x) ∧ okRow (coM sg w x) ∧ okRow (goM sg w x)
def cmA (sg : Hp) (N : NT) (w x : Nat) : Prop := req (coM sg w x) (if x = 0 then nO N w else goOf N (coM sg) w (x - 1)) ∧ okRow (coM sg w x)
theorem cmA_kp {d : Hp} {w x : Nat} (hw : w < nF N) (hx : x < nL N w) (ag1 : agr N (coM sg) (coM d) (nN N w x)) (ag0 : 1 ≤ x → agr N (coM sg) (coM d) (nN N w (x - 1))) (h : cmA sg N w x) : cmA d N w x := by
  have e := ag1 w x hw hx rfl
  refine ⟨e.symm.trans (h.1.trans ?_), okRow_req e h.2⟩
  by_cases e0 : x = 0
  · rw [if_pos e0, if_pos e0]; exact req.rfl'
  · rw [if_neg e0, if_neg e0]
    exact goOf_cong hw (by omega) (ag0 (by omega))
theorem finM_kp {d : Hp} {w x : Nat} (hw : w < nF N) (hx : x < nL N w) (ag1 : agr N (coM sg) (coM d) (nN N w x)) (ag0 : 1 ≤ x → agr N (coM sg) (coM d) (nN N w (x - 1))) (h1 : req (haM d w x) (haM sg w x)) (h2 : d 318 (4 * w + x) = sg 318 (4 * w + x)) (h3 : req (goM d w x) (goM sg w x)) (h : finM sg N w x) : finM d N w x := by
  obtain ⟨f1, f2, f3, f4, f5, f6, f7⟩ := h
  have hc := cmA_kp hw hx ag1 ag0 ⟨f1, f6⟩
  exact ⟨hc.1, h1.trans (f2.trans (haOf_cong hw ag1)), h2.trans (f3.trans (laOf_cong hw hx ag1)), by rw [← laOf_cong hw hx ag1]; exact f4, h3.trans (f5.trans (goOf_cong hw hx ag1)), hc.2, okRow_req h3.symm f7⟩
def MI (s0 : Hp) (N : NT) (r : Nat → Nat) (Pd : Nat → Prop) (sg : Hp) : Prop := eqV s0 sg ∧ (∀ v, v < 6 → sg 317 v = nI (r v)) ∧ ∀ w x, w < nF N → x < nL N w → Pd (nN N w x) → finM sg N w x
def NI (s0 : Hp) (N : NT) (r : Nat → Nat) (Pd : Nat → Prop) (v w : Nat) (sg : Hp) : Prop := MI s0 N r Pd sg ∧ (∀ w' x', w' < nF N → x' < nL N w' → nN N w' x' = v → cmA sg N w' x') ∧ ∀ w' x', w' < w → w' < nF N → x' < nL N w' → nN N w' x' = v → finM sg N w' x'
theorem unsM_kp {d : Hp} (hk : eqV c d) : unsM d N ↔ unsM c N := by
  constructor
  · rintro ⟨w, x, h1, h2, h3⟩
    exact ⟨w, x, h1, h2, by rw [hk 311 _ (by unfold wM; omega)] at h3; exact h3⟩
  · rintro ⟨w, x, h1, h2, h3⟩
    exact ⟨w, x, h1, h2, by rw [hk 311 _ (by unfold wM; omega)]; exact h3⟩
theorem frT_V {q b j : Nat} (hq : q < 20) (h : ¬ wM b j) : ¬ frT q b j := by
  unfold frT inR
  unfold wM at h
  omega
theorem dead58 {K : Int32 → Int32 → Int32 → Hp → Option (Int32 × Hp)} {v2 : Int32} {v : Nat} (h : stM sg N) (hv : v < 6) : ∀ (j w F : Nat), j + w = nF N → j < F → L_X7_layAll_58 K F 0 v2 (nI v) (nI w) sg = K 0 v2 (nI v) sg := by
  have hF := h.1.1
  intro j
  induction j with
  | zero =>
    intro w F e1 e2
    obtain ⟨F, rfl⟩ : ∃ q, F = q + 1 := ⟨F - 1, by omega⟩
    rw [L_X7_layAll_58, h.2.1, if_pos (by rw [leN (by omega) (by omega)]; omega)]
  | succ j ih =>
    intro w F e1 e2
    obtain ⟨F, rfl⟩ : ∃ q, F = q + 1 := ⟨F - 1, by omega⟩
    rw [L_X7_layAll_58, h.2.1, if_neg (by rw [leN (by omega) (by omega)]; omega)]
    unfold B_X7_layAll_100 B_X7_layAll_101
    cases hp : plc N w v with
    | none =>
      rw [placeM_n h (by omega) hv hp, bnd_s, if_pos rfl, nI_1]
      exact ih (w + 1) F (by omega) (by omega)
    | some x =>
      rw [placeM_s h (by omega) hv hp, bnd_s, if_pos rfl, nI_1]
      exact ih (w + 1) F (by omega) (by omega)
theorem dead30 {K : Int32 → Int32 → Hp → Option (Int32 × Hp)} {v2 : Int32} : ∀ (j v F : Nat), j + v = 6 → j < F → L_X7_layAll_30 K F 0 v2 (nI v) sg = K 0 v2 sg := by
  intro j
  induction j with
  | zero =>
    intro v F e1 e2
    obtain ⟨F, rfl⟩ : ∃ q, F = q + 1 := ⟨F - 1, by omega⟩
    rw [L_X7_layAll_30, if_pos (by rw [i6, leN (by omega) (by omega)]; omega)]
  | succ j ih =>
    intro v F e1 e2
    obtain ⟨F, rfl⟩ : ∃ q, F = q + 1 := ⟨F - 1, by omega⟩
    rw [L_X7_layAll_30, if_neg (by rw [i6, leN (by omega) (by omega)]; omega), if_pos rfl]
    unfold B_X7_layAll_108
    rw [nI_1]
    exact ih (v + 1) F (by omega) (by omega)
theorem dead22 {K : Int32 → Hp → Option (Int32 × Hp)} : ∀ (j p F : Nat), j + p = 6 → j < F → L_X7_layAll_22 K F 0 (nI p) sg = K 0 sg := by
  intro j
  induction j with
  | zero =>
    intro v F e1 e2
    obtain ⟨F, rfl⟩ : ∃ q, F = q + 1 := ⟨F - 1, by omega⟩
    rw [L_X7_layAll_22, if_pos (by rw [i6, leN (by omega) (by omega)]; omega)]
  | succ j ih =>
    intro v F e1 e2
    obtain ⟨F, rfl⟩ : ∃ q, F = q + 1 := ⟨F - 1, by omega⟩
    rw [L_X7_layAll_22, if_neg (by rw [i6, leN (by omega) (by omega)]; omega)]
    show L_X7_layAll_30 _ 200 0 (nI v) (nI 0) sg = _
    rw [dead30 6 0 200 (by omega) (by omega), nI_1]
    exact ih (v + 1) F (by omega) (by omega)
theorem all_58 {s0 : Hp} {r : Nat → Nat} {Pd : Nat → Prop} {v : Nat} {K : Int32 → Int32 → Int32 → Hp → Option (Int32 × Hp)} {v2 : Int32} (h0 : stM s0 N) (hu : ¬ unsM s0 N) (hv : v < 6) (hnv : ¬ Pd v) (hcl : ∀ w x, w < nF N → x + 1 < nL N w → (Pd (nN N w (x + 1)) ∨ nN N w (x + 1) = v) → Pd (nN N w x)) : ∀ (j w F : Nat) (sg : Hp), j + w = nF N → j < F → NI s0 N r Pd v w sg → (∃ d, L_X7_layAll_58 K F 1 v2 (nI v) (nI w) sg = K 0 v2 (nI v) d ∧ eqV s0 d ∧ NBad N) ∨ ∃ d, L_X7_layAll_58 K F 1 v2 (nI v) (nI w) sg = K 1 v2 (nI v) d ∧ NI s0 N r Pd v (nF N) d := by
  have hF := h0.1.1
  have hN := h0.1
  intro j
  induction j with
  | zero =>
    intro w F sg e1 e2 hI
    obtain ⟨F, rfl⟩ : ∃ q, F = q + 1 := ⟨F - 1, by omega⟩
    have hs : stM sg N := stM_kp h0 hI.1.1
    refine Or.inr ⟨sg, ?_, by rw [← e1, Nat.zero_add]; exact hI⟩
    rw [L_X7_layAll_58, hs.2.1, if_pos (by rw [leN (by omega) (by omega)]; omega)]
  | succ j ih =>
    intro w F sg e1 e2 hI
    obtain ⟨F, rfl⟩ : ∃ q, F = q + 1 := ⟨F - 1, by omega⟩
    have hs : stM sg N := stM_kp h0 hI.1.1
    have hus : ¬ unsM sg N := fun q => hu ((unsM_kp hI.1.1).1 q)
    rw [L_X7_layAll_58, hs.2.1, if_neg (by rw [leN (by omega) (by omega)]; omega)]
    unfold B_X7_layAll_100 B_X7_layAll_96 B_X7_layAll_101
    rw [nI_1]
    cases hp : plc N w v with
    | none =>
      rw [placeM_n hs (by omega) hv hp, bnd_s, if_neg ne10, if_pos (by decide)]
      refine ih (w + 1) F sg (by omega) (by omega) ⟨hI.1, hI.2.1, fun w' x' h1 h2 h3 h4 => ?_⟩
      by_cases e : w' = w
      · subst e
        exact absurd h4 (plc_none hp x' h3)
      · exact hI.2.2 w' x' (by omega) h2 h3 h4
    | some x =>
      obtain ⟨x1, x2, -⟩ := plc_some hp
      obtain ⟨l1, l2, l3, -⟩ := hN.2.2 w (by omega)
      rw [placeM_s hs (by omega) hv hp, bnd_s, if_neg ne10, if_neg (nneg (by omega))]
      obtain ⟨q, d, d1, d2, d3⟩ := thereM hs (show w < nF N by omega) x1 hus (fun w' x' h1 h2 h3 => (hI.2.1 w' x' h1 h2 (by rw [h3]; exact x2)).2)
      have ed : eqV s0 d := hI.1.1.t (fun b j hb => d2 b j (frT_V (by omega) hb))
      rw [d1, bnd_s]
      rcases d3 with ⟨rfl, d4⟩ | ⟨rfl, d4, d5, d6, d7⟩
      · rw [if_pos rfl, dead58 (stM_kp h0 ed) hv j (w + 1) F (by omega) (by omega)]
        refine Or.inl ⟨d, rfl, ed, coM sg, fun u => Pd u ∨ u = v, w, x, fun w' x' h1 h2 h3 => Or.inl (hcl w' x' h1 h2 h3), fun w' x' h1 h2 h3 => ?_, by omega, x1, Or.inr x2, d4⟩
        rcases h3 with h3 | h3
        · exact (hI.1.2.2 w' x' h1 h2 h3).1
        · exact (hI.2.1 w' x' h1 h2 h3).1
      · rw [if_neg ne10]
        have cok : ∀ w' x', w' < nF N → x' < nL N w' → req (coM sg w' x') (coM d w' x') := fun w' x' h1 h2 t ht => by
          have := (hN.2.2 w' h1).2.1
          exact (d2 _ _ (by unfold frT inR; omega)).symm
        have ag : ∀ u, agr N (coM sg) (coM d) u := fun u w' x' h1 h2 _ => cok w' x' h1 h2
        have oth : ∀ w' x', w' < nF N → x' < nL N w' → ¬ (w' = w ∧ x' = x) → finM sg N w' x' → finM d N w' x' := fun w' x' h1 h2 h3 h4 => by
          have := (hN.2.2 w' h1).2.1
          refine finM_kp h1 h2 (ag _) (fun _ => ag _) (fun t ht => d2 _ _ (by unfold frT inR; omega)) (d2 _ _ (by unfold frT inR; omega)) (fun t ht => d2 _ _ (by unfold frT inR; omega)) h4
        have okS := (hs.2.2.2.2 _ (l3 x x1) (fun q => hus ⟨w, x, by omega, x1, q⟩))
        obtain ⟨f, -, -, -, okS⟩ := okS
        have okg : okRow (goOf N (coM sg) w x) := ok_go (by omega) x1 okS (fun w' x' h1 h2 h3 => (hI.2.1 w' x' h1 h2 (by rw [h3]; exact x2)).2)
        refine ih (w + 1) F d (by omega) (by omega) ⟨⟨ed, fun u hu6 => by rw [d2 317 u (by unfold frT inR; omega)]; exact hI.1.2.1 u hu6, fun w' x' h1 h2 h3 => ?_⟩, fun w' x' h1 h2 h3 => ?_, fun w' x' h0' h1 h2 h3 => ?_⟩
        · refine oth w' x' h1 h2 ?_ (hI.1.2.2 w' x' h1 h2 h3)
          rintro ⟨rfl, rfl⟩
          rw [x2] at h3
          exact hnv h3
        · exact cmA_kp h1 h2 (ag _) (fun _ => ag _) (hI.2.1 w' x' h1 h2 h3)
        · by_cases e : w' = w
          · subst e
            have hx' : x' = x := by
              have := plc_uniq hN h1 h2 h3
              rw [hp] at this
              cases this
              rfl
            subst hx'
            have hc := cmA_kp h1 h2 (ag _) (fun _ => ag _) (hI.2.1 w' x' h1 h2 h3)
            exact ⟨hc.1, d5.trans (haOf_cong h1 (ag _)), d6.trans (laOf_cong h1 h2 (ag _)), by rw [← laOf_cong h1 h2 (ag _)]; exact d4, d7.trans (goOf_cong h1 h2 (ag _)), hc.2, okRow_req d7.symm okg⟩
          · exact oth w' x' h1 h2 (fun q => e q.1) (hI.2.2 w' x' (by omega) h1 h2 h3)
def pd (r : Nat → Nat) (p v u : Nat) : Prop := r u < p ∨ (r u = p ∧ u < v)
theorem all_30 {s0 : Hp} {r : Nat → Nat} {p : Nat} {K : Int32 → Int32 → Hp → Option (Int32 × Hp)} (h0 : stM s0 N) (hu : ¬ unsM s0 N) (hr : rnk N r) (hr5 : ∀ v, v < 6 → r v ≤ 5) (hp : p ≤ 5) : ∀ (j v F : Nat) (sg : Hp), j + v = 6 → j < F → MI s0 N r (pd r p v) sg → (∃ d, L_X7_layAll_30 K F 1 (nI p) (nI v) sg = K 0 (nI p) d ∧ eqV s0 d ∧ NBad N) ∨ ∃ d, L_X7_layAll_30 K F 1 (nI p) (nI v) sg = K 1 (nI p) d ∧ MI s0 N r (pd r p 6) d := by
  have hF := h0.1.1
  have hN := h0.1
  intro j
  induction j with
  | zero =>
    intro v F sg e1 e2 hI
    obtain ⟨F, rfl⟩ : ∃ q, F = q + 1 := ⟨F - 1, by omega⟩
    refine Or.inr ⟨sg, ?_, by rw [← e1, Nat.zero_add]; exact hI⟩
    rw [L_X7_layAll_30, if_pos (by rw [i6, leN (by omega) (by omega)]; omega)]
  | succ j ih =>
    intro v F sg e1 e2 hI
    obtain ⟨F, rfl⟩ : ∃ q, F = q + 1 := ⟨F - 1, by omega⟩
    have hv : v < 6 := by omega
    have hs : stM sg N := stM_kp h0 hI.1
    have hrv := hr5 v hv
    rw [L_X7_layAll_30, if_neg (by rw [i6, leN (by omega) (by omega)]; omega), if_neg ne10, gd_t (inbN hv (by omega)), nI_clamp (by omega), hI.2.1 v hv]
    by_cases hq : r v = p
    · rw [if_pos (by rw [hq])]
      have hnv : ¬ pd r p v v := by unfold pd; omega
      have hcl : ∀ w x, w < nF N → x + 1 < nL N w → (pd r p v (nN N w (x + 1)) ∨ nN N w (x + 1) = v) → pd r p v (nN N w x) := fun w x h1 h2 h3 => by
        have := hr w x h1 h2
        rcases h3 with h3 | h3
        · unfold pd at h3 ⊢; omega
        · rw [h3, hq] at this; exact Or.inl this
      obtain ⟨d, d1, d2, d3⟩ := comingM (K := fun (s6 : Hp) => some ((), s6)) hv (nF N) 0 200 sg (by omega) (by omega) hs (fun w' x' _ h2 h3 h4 => (hI.2.2 w' x' h2 (by omega) (hcl w' x' h2 h3 (Or.inr h4))).2.2.2.2.2.2.2.1)
      have ecm : fX7_layComing (nI v) sg = some ((), d) := d1
      rw [ecm, bnd_s, i0]
      have ed : eqV s0 d := hI.1.t (fun b i hb => d2 b i (fun ⟨w', x', q1, q2, q3, q4, q5⟩ => by
        have := (hN.2.2 w' q2).2.1
        unfold inR at q5
        unfold wM at hb
        omega))
      have nco : ∀ w' x' f t, w' < nF N → x' < nL N w' → t < 41 → (∀ w2 x2, w2 < nF N → x2 < nL N w2 → nN N w2 x2 = v → f ≠ 24 + (4 * w2 + x2)) → d 303 (41 * f + t) = sg 303 (41 * f + t) := fun w' x' f t h1 h2 ht hne => d2 _ _ (fun ⟨w2, x2, q1, q2, q3, q4, q5⟩ => by
        have := hne w2 x2 q2 q3 q4
        unfold inR at q5
        omega)
      have agu : ∀ u, u ≠ v → agr N (coM sg) (coM d) u := fun u hne w' x' h1 h2 h3 t ht => by
        have l4 := (hN.2.2 w' h1).2.1
        refine (nco w' x' (24 + (4 * w' + x')) t h1 h2 ht (fun w2 x2 q2 q3 q4 q5 => ?_)).symm
        have l5 := (hN.2.2 w2 q2).2.1
        have e1 : w' = w2 := by omega
        have e2 : x' = x2 := by omega
        subst e1 e2
        exact hne (h3.symm.trans q4)
      have ha_kp : ∀ w' x', w' < nF N → x' < nL N w' → req (haM d w' x') (haM sg w' x') := fun w' x' h1 h2 t ht => nco w' x' _ t h1 h2 ht (fun w2 x2 q2 q3 q4 => by
        have := (hN.2.2 w2 q2).2.1
        have := (hN.2.2 w' h1).2.1
        omega)
      have go_kp : ∀ w' x', w' < nF N → x' < nL N w' → req (goM d w' x') (goM sg w' x') := fun w' x' h1 h2 t ht => nco w' x' _ t h1 h2 ht (fun w2 x2 q2 q3 q4 => by
        have := (hN.2.2 w2 q2).2.1
        have := (hN.2.2 w' h1).2.1
        omega)
      have o3 : ∀ b i, b ≠ 303 → d b i = sg b i := fun b i hb => d2 b i (fun ⟨w2, x2, q1, q2, q3, q4, q5⟩ => hb q5.1)
      have hNI : NI s0 N r (pd r p v) v 0 d := by
        refine ⟨⟨ed, fun u hu6 => by rw [o3 317 u (by omega)]; exact hI.2.1 u hu6, fun w' x' h1 h2 h3 => ?_⟩, fun w' x' h1 h2 h3 => ?_, fun w' x' h9 => by omega⟩
        · refine finM_kp h1 h2 (agu _ (fun q => by rw [q] at h3; exact hnv h3)) (fun hx1 => agu _ (fun q => ?_)) (ha_kp w' x' h1 h2) (o3 318 _ (by omega)) (go_kp w' x' h1 h2) (hI.2.2 w' x' h1 h2 h3)
          have := hcl w' (x' - 1) h1 (by omega) (Or.inl (by rw [show x' - 1 + 1 = x' by omega]; exact h3))
          rw [q] at this
          exact hnv this
        · have e3 := d3 w' x' (by omega) h1 h2 h3
          by_cases e0 : x' = 0
          · unfold cmA
            rw [if_pos e0] at e3 ⊢
            exact ⟨e3, okRow_req e3.symm (hN.2.2 w' h1).2.2.2.2⟩
          · have hpd := hcl w' (x' - 1) h1 (by omega) (Or.inr (by rw [show x' - 1 + 1 = x' by omega]; exact h3))
            have fm := hI.2.2 w' (x' - 1) h1 (by omega) hpd
            unfold cmA
            rw [if_neg e0] at e3 ⊢
            refine ⟨e3.trans (fm.2.2.2.2.1.trans (goOf_cong h1 (by omega) (agu _ (fun q => by rw [q] at hpd; exact hnv hpd)))), okRow_req e3.symm fm.2.2.2.2.2.2⟩
      rcases all_58 (K := fun (w9_1 : Int32) (w9_2 : Int32) (w9_3 : Int32) (s10 : Hp) => B_X7_layAll_108 (L_X7_layAll_30 K F) w9_1 w9_2 w9_3 s10) (v2 := nI p) h0 hu hv hnv hcl (nF N) 0 200 d (by omega) (by omega) hNI with ⟨d', w1, w2, w3⟩ | ⟨d', w1, w2⟩
      · rw [w1]
        unfold B_X7_layAll_108
        rw [nI_1, dead30 j (v + 1) F (by omega) (by omega)]
        exact Or.inl ⟨d', rfl, w2, w3⟩
      · rw [w1]
        unfold B_X7_layAll_108
        rw [nI_1]
        refine ih (v + 1) F d' (by omega) (by omega) ⟨w2.1.1, w2.1.2.1, fun w' x' h1 h2 h3 => ?_⟩
        by_cases e : nN N w' x' = v
        · exact w2.2.2 w' x' h1 h1 h2 e
        · exact w2.1.2.2 w' x' h1 h2 (by unfold pd at h3 ⊢; omega)
    · rw [if_neg (by rw [eqN (by omega) (by omega)]; exact hq)]
      unfold B_X7_layAll_108
      rw [nI_1]
      refine ih (v + 1) F sg (by omega) (by omega) ⟨hI.1, hI.2.1, fun w' x' h1 h2 h3 => hI.2.2 w' x' h1 h2 ?_⟩
      unfold pd at h3 ⊢
      by_cases e : nN N w' x' = v
      · rw [e] at h3 ⊢; omega
      · omega
theorem all_22 {s0 : Hp} {r : Nat → Nat} {K : Int32 → Hp → Option (Int32 × Hp)} (h0 : stM s0 N) (hu : ¬ unsM s0 N) (hr : rnk N r) (hr5 : ∀ v, v < 6 → r v ≤ 5) : ∀ (j p F : Nat) (sg : Hp), j + p = 6 → j < F → MI s0 N r (pd r p 0) sg → (∃ d, L_X7_layAll_22 K F 1 (nI p) sg = K 0 d ∧ eqV s0 d ∧ NBad N) ∨ ∃ d, L_X7_layAll_22 K F 1 (nI p) sg = K 1 d ∧ MI s0 N r (pd r 6 0) d := by
  intro j
  induction j with
  | zero =>
    intro p F sg e1 e2 hI
    obtain ⟨F, rfl⟩ : ∃ q, F = q + 1 := ⟨F - 1, by omega⟩
    refine Or.inr ⟨sg, ?_, by rw [← e1, Nat.zero_add]; exact hI⟩
    rw [L_X7_layAll_22, if_pos (by rw [i6, leN (by omega) (by omega)]; omega)]
  | succ j ih =>
    intro p F sg e1 e2 hI
    obtain ⟨F, rfl⟩ : ∃ q, F = q + 1 := ⟨F - 1, by omega⟩
    rw [L_X7_layAll_22, if_neg (by rw [i6, leN (by omega) (by omega)]; omega), i0]
    rcases all_30 (K := fun (w11_1 : Int32) (w11_2 : Int32) (s12 : Hp) => (L_X7_layAll_22 K F) w11_1 (w11_2 + (1 : Int32)) s12) h0 hu hr hr5 (show p ≤ 5 by omega) 6 0 200 sg (by omega) (by omega) hI with ⟨d, w1, w2, w3⟩ | ⟨d, w1, w2⟩
    · rw [w1]
      refine Or.inl ⟨d, ?_, w2, w3⟩
      show L_X7_layAll_22 K F 0 (nI p + 1) d = _
      rw [nI_1, dead22 j (p + 1) F (by omega) (by omega)]
      rfl
    · rw [w1]
      show (∃ d', L_X7_layAll_22 K F 1 (nI p + 1) d = K (nI 0) d' ∧ _) ∨ ∃ d', L_X7_layAll_22 K F 1 (nI p + 1) d = K 1 d' ∧ _
      rw [nI_1]
      refine ih (p + 1) F d (by omega) (by omega) ⟨w2.1, w2.2.1, fun w' x' h1 h2 h3 => w2.2.2 w' x' h1 h2 ?_⟩
      have := (h0.1.2.2 w' h1).2.2.1 x' h2
      unfold pd at h3 ⊢
      omega
def noneM (m : Hp) (N : NT) : Prop := (¬ ∃ ρ, rnk N ρ) ∨ unsM m N ∨ ((∃ ρ, rnk N ρ) ∧ NBad N)
def fullM (m : Hp) (N : NT) : Prop := (∃ ρ, rnk N ρ) ∧ ¬ unsM m N ∧ NOk N (coM m) ∧ ∀ w x, w < nF N → x < nL N w → req (haM m w x) (haOf N (coM m) w x) ∧ m 318 (4 * w + x) = laOf N (coM m) w x ∧ req (goM m w x) (goOf N (coM m) w x) ∧ okRow (coM m w x)
theorem allM (h : stM sg N) : ∃ r d, fX7_layAll sg = some (r, d) ∧ eqV sg d ∧ ((r = 0 ∧ noneM sg N) ∨ (r = 1 ∧ fullM d N)) := by
  have e1 := rounds_ok h
  have k1 : eqV sg (S317 sg (rnds N).2) := eqV.fil
  have h1 := stM_kp h k1
  have dead : ∀ s, B_X7_layAll_18 s = some (0, s) := fun s => by
    unfold B_X7_layAll_18 B_X7_layAll_19
    show L_X7_layAll_22 _ 200 0 (nI 0) s = _
    rw [dead22 6 0 200 (by omega) (by omega)]
    rfl
  cases hq : (rnds N).1 with
  | false =>
    rw [hq] at e1
    refine ⟨0, _, ?_, k1, Or.inl ⟨rfl, Or.inl (fun ⟨ρ, hr⟩ => by
      have := (rnds_yes h.1 hr).1
      rw [hq] at this
      cases this)⟩⟩
    unfold fX7_layAll
    rw [e1, bnd_s, if_pos (by decide), dead]
  | true =>
    rw [hq] at e1
    have hr := rnds_rnk hq
    have hr5 := (rnds_yes h.1 hr).2
    by_cases hu : unsM (S317 sg (rnds N).2) N
    · refine ⟨0, _, ?_, k1, Or.inl ⟨rfl, Or.inr (Or.inl ((unsM_kp k1).1 hu))⟩⟩
      unfold fX7_layAll
      rw [e1, bnd_s, if_neg (by decide), (servM_ok h1).1 hu, bnd_s, if_pos rfl, dead]
    · have pre : fX7_layAll sg = L_X7_layAll_22 (fun (w13_1 : Int32) (s14 : Hp) => (gd (b01 w13_1) (some (w13_1, s14)))) 200 1 (nI 0) (S317 sg (rnds N).2) := by
        unfold fX7_layAll B_X7_layAll_19
        rw [e1, bnd_s, if_neg (by decide), (servM_ok h1).2 hu, bnd_s, if_neg ne10]
        rfl
      rw [pre]
      rcases all_22 (K := fun (w13_1 : Int32) (s14 : Hp) => (gd (b01 w13_1) (some (w13_1, s14)))) h1 hu hr hr5 6 0 200 (S317 sg (rnds N).2) (by omega) (by omega) ⟨eqV.r, fun v hv => by unfold S317; rw [fil_in hv], fun w' x' _ _ hd => by unfold pd at hd; omega⟩ with ⟨d, d1, d2, d3⟩ | ⟨d, d1, d2⟩
      · exact ⟨0, d, d1, k1.t d2, Or.inl ⟨rfl, Or.inr (Or.inr ⟨⟨_, hr⟩, d3⟩)⟩⟩
      · have all : ∀ w x, w < nF N → x < nL N w → finM d N w x := fun w x hw hx => d2.2.2 w x hw hx (by
          have := hr5 _ ((h.1.2.2 w hw).2.2.1 x hx)
          unfold pd
          omega)
        refine ⟨1, d, d1, k1.t d2.1, Or.inr ⟨rfl, ⟨_, hr⟩, fun q => hu ((unsM_kp d2.1).1 q), ⟨fun w x hw hx _ => (all w x hw hx).1, fun w x hw hx => (all w x hw hx).2.2.2.1⟩, fun w x hw hx => ?_⟩⟩
        obtain ⟨f1, f2, f3, f4, f5, f6, -⟩ := all w x hw hx
        exact ⟨f2, f3, f5, f6⟩
end C6
