section C3
variable {sg c m : Hp} {N : NT}
def finC (sg : Hp) (N : NT) (w x : Nat) : Prop := req (sg (180 + (4 * w + x))) (haOf N (coC sg) w x) ∧ sg 17 (4 * w + x) = laOf N (coC sg) w x ∧ laOf N (coC sg) w x ≠ -9 ∧ req (sg (150 + (5 * w + (x + 1)))) (goOf N (coC sg) w x) ∧ okRow (sg (150 + (5 * w + (x + 1))))
def dne (N : NT) (ρ : Nat → Nat) (i w w' x' : Nat) : Prop := ρ (nN N w' x') < i ∨ (ρ (nN N w' x') = i ∧ w' < w)
def WI (s0 : Hp) (N : NT) (ρ : Nat → Nat) (o : Nat → Nat) (i w : Nat) (sg : Hp) : Prop := eqW s0 sg ∧ (∀ k, k < 6 → sg 19 k = nI (o k)) ∧ ∀ w' x', w' < nF N → x' < nL N w' → dne N ρ i w w' x' → finC sg N w' x'
theorem co_ok {s0 : Hp} {ρ o : Nat → Nat} {i w : Nat} (h : stC sg N) (hr : rnk N ρ) (hI : WI s0 N ρ o i w sg) : ∀ w' x', w' < nF N → x' < nL N w' → ρ (nN N w' x') ≤ i → okRow (coC sg w' x') := by
  intro w' x' hw hx hp
  obtain ⟨h0, h1, h2, h3, h4⟩ := h
  cases x' with
  | zero =>
    obtain ⟨g1, g2, g3⟩ := h3 w' hw
    have ok := (h0.2.2 w' hw).2.2.2.2
    exact okRow_req (fun t ht => (g3 t ht).symm) ok
  | succ x' =>
    have hlt := hr w' x' hw hx
    exact (hI.2.2 w' x' hw (by omega) (Or.inl (by omega))).2.2.2.2
theorem ce_ok {s0 : Hp} {ρ o : Nat → Nat} {i w : Nat} (h : stC sg N) (hr : rnk N ρ) (hI : WI s0 N ρ o i w sg) : CE N (coC sg) (fun u => ρ u ≤ i) := by
  intro w' x' hw hx hp
  obtain ⟨h0, h1, h2, h3, h4⟩ := h
  cases x' with
  | zero =>
    rw [if_pos rfl]
    obtain ⟨g1, g2, g3⟩ := h3 w' hw
    exact g3
  | succ x' =>
    rw [if_neg (by omega), show x' + 1 - 1 = x' by omega]
    have hlt := hr w' x' hw hx
    have hp : ρ (nN N w' (x' + 1)) ≤ i := hp
    exact (hI.2.2 w' x' hw (by omega) (Or.inl (by omega))).2.2.2.1
theorem dcl_le {ρ : Nat → Nat} {i : Nat} (hr : rnk N ρ) : dcl N (fun u => ρ u ≤ i) := fun w x hw hx hp => by
  have := hr w x hw hx
  have hp : ρ (nN N w (x + 1)) ≤ i := hp
  show ρ (nN N w x) ≤ i
  omega
theorem WI_next {s0 d : Hp} {ρ o : Nat → Nat} {i w x : Nat} (h : stC sg N) (hr : rnk N ρ) (hu : ¬ unserved sg N) (hI : WI s0 N ρ o i w sg) (hw : w < nF N) (hx : x < nL N w) (hi : ρ (nN N w x) = i) (hk : ∀ b j, ¬ (b = 20 ∨ b = 180 + (4 * w + x) ∨ (b = 17 ∧ j = 4 * w + x) ∨ b = 150 + (5 * w + (x + 1))) → d b j = sg b j) (h9 : laOf N (coC sg) w x ≠ -9) (hha : req (d (180 + (4 * w + x))) (haOf N (coC sg) w x)) (hla : d 17 (4 * w + x) = laOf N (coC sg) w x) (hgo : req (d (150 + (5 * w + (x + 1)))) (goOf N (coC sg) w x)) : WI s0 N ρ o i (w + 1) d := by
  have hF := h.1.1
  have hwf := h.1
  obtain ⟨l1, l2, l3, -⟩ := h.1.2.2 w hw
  have hv := l3 x hx
  have okS := (h.2.2.2.2 _ hv (fun q => hu ⟨w, x, hw, hx, q⟩)).2
  have hco : ∀ w' x', w' < nF N → x' < nL N w' → nN N w' x' = nN N w x → okRow (coC sg w' x') := fun w' x' h1 h2 h3 => co_ok h hr hI w' x' h1 h2 (by rw [h3, hi]; exact Nat.le_refl _)
  have cokp : ∀ w' x', w' < nF N → x' < nL N w' → ρ (nN N w' x') ≤ i → req (coC sg w' x') (coC d w' x') := fun w' x' h1 h2 h3 t _ => by
    have l2' := (hwf.2.2 w' h1).2.1
    have hne : ¬ (w' = w ∧ x' = x + 1) := by
      rintro ⟨rfl, rfl⟩
      have := hr w' x h1 h2
      omega
    exact (hk (150 + (5 * w' + x')) t (by omega)).symm
  have agv : ∀ v, ρ v ≤ i → agr N (coC sg) (coC d) v := fun v hv w' x' h1 h2 h3 => cokp w' x' h1 h2 (by rw [h3]; exact hv)
  refine ⟨hI.1.t (fun b j hb => hk b j (by unfold wC at hb; omega)), fun k hk6 => by rw [hk 19 k (by omega)]; exact hI.2.1 k hk6, fun w' x' h1 h2 hd => ?_⟩
  have l2' := (hwf.2.2 w' h1).2.1
  have hle : ρ (nN N w' x') ≤ i := by unfold dne at hd; omega
  have ag := agv _ hle
  by_cases e : w' = w ∧ x' = x
  · obtain ⟨rfl, rfl⟩ := e
    refine ⟨hha.trans (haOf_cong h1 ag), hla.trans (laOf_cong h1 h2 ag), by rw [← laOf_cong h1 h2 ag]; exact h9, hgo.trans (goOf_cong h1 h2 ag), ?_⟩
    exact okRow_req (fun t ht => (hgo t ht).symm) (ok_go h1 h2 okS hco)
  · have hd2 : dne N ρ i w w' x' := by
      unfold dne at hd ⊢
      by_cases q : ρ (nN N w' x') < i
      · exact Or.inl q
      · refine Or.inr ⟨by omega, ?_⟩
        by_cases q2 : w' = w
        · exfalso
          subst q2
          have hx' : x' ≠ x := fun q3 => e ⟨rfl, q3⟩
          rcases Nat.lt_or_gt_of_ne hx' with q3 | q3
          · have : ∀ b a, a < b → b < nL N w' → ρ (nN N w' a) < ρ (nN N w' b) := by
              intro b
              induction b with
              | zero => intro a ha; omega
              | succ b ih =>
                intro a ha hb
                have s1 := hr w' b h1 hb
                by_cases q4 : a = b
                · rw [q4]; exact s1
                · have := ih a (by omega) (by omega); omega
            have := this x x' q3 hx
            omega
          · have : ∀ b a, a < b → b < nL N w' → ρ (nN N w' a) < ρ (nN N w' b) := by
              intro b
              induction b with
              | zero => intro a ha; omega
              | succ b ih =>
                intro a ha hb
                have s1 := hr w' b h1 hb
                by_cases q4 : a = b
                · rw [q4]; exact s1
                · have := ih a (by omega) (by omega); omega
            have := this x' x q3 h2
            omega
        · omega
    obtain ⟨f1, f2, f3, f4, f5⟩ := hI.2.2 w' x' h1 h2 hd2
    have r180 : d (180 + (4 * w' + x')) = sg (180 + (4 * w' + x')) := funext fun t => hk _ _ (by omega)
    have r150 : d (150 + (5 * w' + (x' + 1))) = sg (150 + (5 * w' + (x' + 1))) := funext fun t => hk _ _ (by omega)
    refine ⟨by rw [r180]; exact f1.trans (haOf_cong h1 ag), ?_, by rw [← laOf_cong h1 h2 ag]; exact f3, by rw [r150]; exact f4.trans (goOf_cong h1 h2 ag), by rw [r150]; exact f5⟩
    rw [hk 17 (4 * w' + x') (by omega), f2]
    exact laOf_cong h1 h2 ag
theorem uns_kpW {d : Hp} (hk : eqW c d) : unserved d N ↔ unserved c N := by
  constructor
  · rintro ⟨w, x, h1, h2, h3⟩
    exact ⟨w, x, h1, h2, by rw [hk 10 _ (by unfold wC; omega)] at h3; exact h3⟩
  · rintro ⟨w, x, h1, h2, h3⟩
    exact ⟨w, x, h1, h2, by rw [hk 10 _ (by unfold wC; omega)]; exact h3⟩
theorem work_in {s0 : Hp} {ρ o : Nat → Nat} {i : Nat} {K : Int32 → Hp → Option (Int32 × Hp)} {K2 : Hp → Option (Int32 × Hp)} (h0 : stC s0 N) (hu : ¬ unserved s0 N) (hr : rnk N ρ) (hi6 : i < 6) (ho : o i < 6) (hoi : ρ (o i) = i) (hinj : ∀ v, v < 6 → ρ v = i → v = o i) : ∀ (j w F : Nat) (sg : Hp), j + w = nF N → j < F → WI s0 N ρ o i w sg → (∃ d, L_X0_workOut_10 K K2 F (nI i) (nI w) sg = K2 d ∧ eqW s0 d ∧ NBad N) ∨ ∃ d, L_X0_workOut_10 K K2 F (nI i) (nI w) sg = K (nI i) d ∧ WI s0 N ρ o i (nF N) d := by
  intro j
  have hF := h0.1.1
  induction j with
  | zero =>
    intro w F sg e1 e2 hI
    obtain ⟨F, rfl⟩ : ∃ q, F = q + 1 := ⟨F - 1, by omega⟩
    have hs : stC sg N := stC_kp h0 hI.1
    refine Or.inr ⟨sg, ?_, by rw [← e1, Nat.zero_add]; exact hI⟩
    rw [L_X0_workOut_10, hs.2.1, if_pos (by rw [leN (by omega) (by omega)]; omega)]
  | succ j ih =>
    intro w F sg e1 e2 hI
    obtain ⟨F, rfl⟩ : ∃ q, F = q + 1 := ⟨F - 1, by omega⟩
    have hs : stC sg N := stC_kp h0 hI.1
    have hus : ¬ unserved sg N := fun q => hu ((uns_kpW hI.1).1 q)
    rw [L_X0_workOut_10, hs.2.1, if_neg (by rw [leN (by omega) (by omega)]; omega), gd_t (inbN hi6 (by omega)), nI_clamp (by omega), hI.2.1 i hi6]
    unfold B_X0_workOut_45
    rw [nI_1]
    cases hp : plc N w (o i) with
    | none =>
      rw [placeC_n hs (by omega) ho hp, bnd_s, if_pos (by decide)]
      refine ih (w + 1) F sg (by omega) (by omega) ⟨hI.1, hI.2.1, fun w' x' h1 h2 hd => hI.2.2 w' x' h1 h2 ?_⟩
      unfold dne at hd ⊢
      by_cases q : ρ (nN N w' x') < i
      · exact Or.inl q
      · refine Or.inr ⟨by omega, ?_⟩
        by_cases q2 : w' = w
        · exfalso
          subst q2
          have := (h0.1.2.2 w' h1).2.2.1 x' h2
          exact plc_none hp x' h2 (hinj _ this (by omega))
        · omega
    | some x =>
      obtain ⟨x1, x2, -⟩ := plc_some hp
      obtain ⟨l1, l2, l3, -⟩ := h0.1.2.2 w (by omega)
      have hri : ρ (nN N w x) = i := by rw [x2]; exact hoi
      rw [placeC_s hs (by omega) ho hp, bnd_s, if_neg (nneg (by omega))]
      obtain ⟨r, d, d1, d2, d3⟩ := workAt hs (show w < nF N by omega) x1 hus (fun w' x' h1 h2 h3 => co_ok hs hr hI w' x' h1 h2 (by rw [h3, hri]; exact Nat.le_refl _))
      rw [d1, bnd_s]
      rcases d3 with ⟨rfl, d4⟩ | ⟨rfl, d4, d5, d6, d7⟩
      · refine Or.inl ⟨d, by rw [if_pos rfl], hI.1.t (fun b j hb => d2 b j (by unfold wC at hb; omega)), ?_⟩
        exact ⟨coC sg, fun u => ρ u ≤ i, w, x, dcl_le hr, ce_ok hs hr hI, by omega, x1, by show ρ (nN N w x) ≤ i; omega, d4⟩
      · rw [if_neg ne10]
        exact ih (w + 1) F d (by omega) (by omega) (WI_next hs hr hus hI (by omega) x1 hri d2 d4 d5 d6 d7)
theorem work_out {s0 : Hp} {ρ o : Nat → Nat} {K K2 : Hp → Option (Int32 × Hp)} (h0 : stC s0 N) (hu : ¬ unserved s0 N) (hr : rnk N ρ) (ho : ∀ i, i < 6 → o i < 6 ∧ ρ (o i) = i) (hinj : ∀ v, v < 6 → o (ρ v) = v) : ∀ (j i F : Nat) (sg : Hp), j + i = 6 → j < F → WI s0 N ρ o i 0 sg → (∃ d, L_X0_workOut_2 K K2 F (nI i) sg = K2 d ∧ eqW s0 d ∧ NBad N) ∨ ∃ d, L_X0_workOut_2 K K2 F (nI i) sg = K d ∧ WI s0 N ρ o 6 0 d := by
  intro j
  have hF := h0.1.1
  induction j with
  | zero =>
    intro i F sg e1 e2 hI
    obtain ⟨F, rfl⟩ : ∃ q, F = q + 1 := ⟨F - 1, by omega⟩
    refine Or.inr ⟨sg, ?_, by rw [← e1, Nat.zero_add]; exact hI⟩
    rw [L_X0_workOut_2, if_pos (by rw [i6, leN (by omega) (by omega)]; omega)]
  | succ j ih =>
    intro i F sg e1 e2 hI
    obtain ⟨F, rfl⟩ : ∃ q, F = q + 1 := ⟨F - 1, by omega⟩
    rw [L_X0_workOut_2, if_neg (by rw [i6, leN (by omega) (by omega)]; omega), i0]
    rcases work_in (K := fun (w5_1 : Int32) (s6 : Hp) => (L_X0_workOut_2 K K2 F) (w5_1 + (1 : Int32)) s6) (K2 := K2) h0 hu hr (show i < 6 by omega) (ho i (by omega)).1 (ho i (by omega)).2 (fun v hv e => by rw [← e, hinj v hv]) (nF N) 0 200 sg (by omega) (by omega) hI with ⟨d, d1, d2⟩ | ⟨d, d1, d2⟩
    · exact Or.inl ⟨d, d1, d2⟩
    · rw [d1]
      show (∃ d', L_X0_workOut_2 K K2 F (nI i + 1) d = K2 d' ∧ _) ∨ ∃ d', L_X0_workOut_2 K K2 F (nI i + 1) d = K d' ∧ _
      rw [nI_1]
      refine ih (i + 1) F d (by omega) (by omega) ⟨d2.1, d2.2.1, fun w' x' h1 h2 hd => d2.2.2 w' x' h1 h2 ?_⟩
      unfold dne at hd ⊢
      omega
theorem work_ok {s0 : Hp} {o : Nat → Nat} {ρ : Nat → Nat} (h0 : stC s0 N) (hu : ¬ unserved s0 N) (hr : rnk N ρ) (h5 : ∀ v, ρ v ≤ 5) (ho : ∀ i, i < 6 → o i < 6 ∧ ρ (o i) = i) (hinj : ∀ v, v < 6 → o (ρ v) = v) (h19 : ∀ k, k < 6 → s0 19 k = nI (o k)) : ∃ r d, fX0_workOut s0 = some (r, d) ∧ eqW s0 d ∧ ((r = 0 ∧ NBad N) ∨ (r = 1 ∧ fullC d N)) := by
  unfold fX0_workOut
  rw [i0]
  rcases work_out (K := fun (s8 : Hp) => some ((1 : Int32), s8)) (K2 := fun (s10 : Hp) => some ((0 : Int32), s10)) h0 hu hr ho hinj 6 0 200 s0 (by omega) (by omega) ⟨eqW.r, h19, fun w' x' _ _ hd => by unfold dne at hd; omega⟩ with ⟨d, d1, d2, d3⟩ | ⟨d, d1, d2⟩
  · exact ⟨0, d, d1, d2, Or.inl ⟨rfl, d3⟩⟩
  · refine ⟨1, d, d1, d2.1, Or.inr ⟨rfl, ⟨ρ, hr⟩, fun q => hu ((uns_kpW d2.1).1 q), ?_, fun w x hw hx => ?_⟩⟩
    · have hs := stC_kp h0 d2.1
      have hce := ce_ok hs hr d2
      refine ⟨fun w x hw hx _ => hce w x hw hx (by have := h5 (nN N w x); show ρ (nN N w x) ≤ 6; omega), fun w x hw hx => ?_⟩
      exact (d2.2.2 w x hw hx (Or.inl (by have := h5 (nN N w x); omega))).2.2.1
    · obtain ⟨f1, f2, f3, f4, f5⟩ := d2.2.2 w x hw hx (Or.inl (by have := h5 (nN N w x); omega))
      exact ⟨f1, f2, f4⟩
theorem coC_up {b j : Nat} {v : Int32} (hb : b < 150) : coC (up2 sg b j v) = coC sg := funext fun w => funext fun x => funext fun t => up2_o (by omega)
theorem full_up {j : Nat} {v : Int32} (h : fullC sg N) : fullC (up2 sg 2 j v) N := by
  obtain ⟨h1, h2, h3, h4⟩ := h
  refine ⟨h1, fun ⟨w, x, q1, q2, q3⟩ => h2 ⟨w, x, q1, q2, by rw [up2_o (by omega)] at q3; exact q3⟩, by rw [coC_up (by omega)]; exact h3, fun w x hw hx => ?_⟩
  obtain ⟨k1, k2, k3⟩ := h4 w x hw hx
  rw [coC_up (by omega)]
  refine ⟨fun t ht => by rw [up2_o (by omega)]; exact k1 t ht, by rw [up2_o (by omega)]; exact k2, fun t ht => by rw [up2_o (by omega)]; exact k3 t ht⟩
theorem none_up {j : Nat} {v : Int32} (h : noneC sg N) : noneC (up2 sg 2 j v) N := by
  rcases h with h | ⟨w, x, q1, q2, q3⟩ | h
  · exact Or.inl h
  · exact Or.inr (Or.inl ⟨w, x, q1, q2, by rw [up2_o (by omega)]; exact q3⟩)
  · exact Or.inr (Or.inr h)
theorem none_kp {d : Hp} (hk : eqW c d) (h : noneC c N) : noneC d N := by
  rcases h with h | h | h
  · exact Or.inl h
  · exact Or.inr (Or.inl ((uns_kpW hk).2 h))
  · exact Or.inr (Or.inr h)
theorem bounded_ok (h : stC sg N) (hf : freshC sg N) : ∃ r d, fX0_isBounded sg = some (r, d) ∧ eqW sg d ∧ freshC d N ∧ ((r = 0 ∧ noneC d N) ∨ (r = 1 ∧ fullC d N)) := by
  have b0 : b01 0 = true := by decide
  have b1 : b01 1 = true := by decide
  have fin0 : ∀ s, fX0_isBounded sg = B_X0_isBounded_35 s → eqW sg s → noneC s N → ∃ r d, fX0_isBounded sg = some (r, d) ∧ eqW sg d ∧ freshC d N ∧ ((r = 0 ∧ noneC d N) ∨ (r = 1 ∧ fullC d N)) := by
    intro s e1 e2 e3
    have n2 : noneC (up2 (up2 s 2 15 0) 2 14 1) N := none_up (none_up e3)
    refine ⟨0, up2 (up2 s 2 15 0) 2 14 1, ?_, e2.t ((eqW.up (by unfold wC; omega)).t (eqW.up (by unfold wC; omega))), Or.inr ⟨up2_s, Or.inl ⟨by rw [up2_o (by omega), up2_s], n2⟩⟩, Or.inl ⟨rfl, n2⟩⟩
    rw [e1]
    unfold B_X0_isBounded_35 B_X0_isBounded_36 B_X0_isBounded_44
    have e15 : up2 (up2 s 2 15 0) 2 14 1 2 15 = 0 := by rw [up2_o (by omega), up2_s]
    rw [gd_t b0, gd_t b1, e15, gd_t b0]
  by_cases h14 : sg 2 14 = 0
  · obtain ⟨d, d1, d2, d3⟩ := order_ok h
    have hd := stC_kp h d2
    by_cases h6 : (ordr N).2.1 = 6
    · obtain ⟨ρ, r1, r2, r3, r4⟩ := ordr_rank h.1 h6
      by_cases hu : unserved d N
      · refine fin0 d ?_ d2 (Or.inr (Or.inl hu))
        unfold fX0_isBounded
        rw [if_pos h14, d1, bnd_s, if_pos (by rw [h6]; rfl), servC_n hd hu, bnd_s, if_pos rfl]
      · obtain ⟨r, d', w1, w2, w3⟩ := work_ok (o := (ordr N).2.2) hd hu r1 r2 (fun i hi => ⟨((OI_ordr h.1).2.2.1 i (by rw [h6]; exact hi)).1, r4 i hi⟩) r3 (fun k hk => d3 k (by rw [h6]; exact hk))
        rcases w3 with ⟨rfl, w3⟩ | ⟨rfl, w3⟩
        · refine fin0 d' ?_ (d2.t w2) (Or.inr (Or.inr ⟨⟨ρ, r1⟩, w3⟩))
          unfold fX0_isBounded
          rw [if_pos h14, d1, bnd_s, if_pos (by rw [h6]; rfl), servC_y hd hu, bnd_s, if_neg ne10, w1, bnd_s, if_pos rfl]
        · have f2 : fullC (up2 (up2 d' 2 15 1) 2 14 1) N := full_up (full_up w3)
          refine ⟨1, up2 (up2 d' 2 15 1) 2 14 1, ?_, d2.t (w2.t ((eqW.up (by unfold wC; omega)).t (eqW.up (by unfold wC; omega)))), Or.inr ⟨up2_s, Or.inr ⟨by rw [up2_o (by omega), up2_s], f2⟩⟩, Or.inr ⟨rfl, f2⟩⟩
          unfold fX0_isBounded
          rw [if_pos h14, d1, bnd_s, if_pos (by rw [h6]; rfl), servC_y hd hu, bnd_s, if_neg ne10, w1, bnd_s, if_neg ne10]
          unfold B_X0_isBounded_36 B_X0_isBounded_44
          have e15 : up2 (up2 d' 2 15 1) 2 14 1 2 15 = 1 := by rw [up2_o (by omega), up2_s]
          rw [gd_t b1, gd_t b1, e15, gd_t b1]
    · refine fin0 d ?_ d2 (Or.inl (fun ⟨ρ, hr⟩ => h6 (ordr_yes h.1 hr)))
      have := (OI_ordr h.1).1
      unfold fX0_isBounded
      rw [if_pos h14, d1, bnd_s, if_neg (by rw [i6, eqN (by omega) (by omega)]; exact h6)]
  · rcases hf with hf | ⟨f1, f2⟩
    · exact absurd hf h14
    · rcases f2 with ⟨f2, f3⟩ | ⟨f2, f3⟩
      · refine ⟨0, sg, ?_, eqW.r, Or.inr ⟨f1, Or.inl ⟨f2, f3⟩⟩, Or.inl ⟨rfl, f3⟩⟩
        unfold fX0_isBounded B_X0_isBounded_44
        rw [if_neg h14, f2, gd_t b0]
      · refine ⟨1, sg, ?_, eqW.r, Or.inr ⟨f1, Or.inr ⟨f2, f3⟩⟩, Or.inr ⟨rfl, f3⟩⟩
        unfold fX0_isBounded B_X0_isBounded_44
        rw [if_neg h14, f2, gd_t b1]
theorem ringC (h : stC sg N) : ∃ r d, fX6_ring sg = some (r, d) ∧ (∀ b j, b ≠ 18 → b ≠ 19 → d b j = sg b j) ∧ ((r = 0 ∧ ∃ ρ, rnk N ρ) ∨ (r = 1 ∧ ¬ ∃ ρ, rnk N ρ)) := by
  have := (OI_ordr h.1).1
  by_cases h6 : (ordr N).2.1 = 6
  · obtain ⟨ρ, r1, -⟩ := ordr_rank h.1 h6
    refine ⟨0, S19 (S18 sg (ahd N)) (ordr N), ?_, fun b j h1 h2 => order_kp h1 h2, Or.inl ⟨rfl, ρ, r1⟩⟩
    unfold fX6_ring fX0_hasRing B_X0_hasRing_14 B_X6_ring_15
    rw [order_eq h, bnd_s, if_pos (by rw [h6]; decide)]
    rfl
  · refine ⟨1, S19 (S18 sg (ahd N)) (ordr N), ?_, fun b j h1 h2 => order_kp h1 h2, Or.inr ⟨rfl, fun ⟨ρ, hr⟩ => h6 (ordr_yes h.1 hr)⟩⟩
    unfold fX6_ring fX0_hasRing B_X0_hasRing_14 B_X6_ring_15
    rw [order_eq h, bnd_s, if_neg (by rw [i6, leN (by omega) (by omega)]; omega)]
    rfl
end C3
