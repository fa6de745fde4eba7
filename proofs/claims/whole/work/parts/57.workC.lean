def unW (N : NT) (S : Nat → Int32) (w : Nat) : Nat → Nat → Bool
  | 0, _ => false
  | j + 1, x => if S (nN N w x) = -9 then true else unW N S w j (x + 1)
def unF (N : NT) (S : Nat → Int32) : Nat → Nat → Bool
  | 0, _ => false
  | j + 1, w => if unW N S w (nL N w) 0 = true then true else unF N S j (w + 1)
theorem unW_iff {N : NT} {S : Nat → Int32} {w : Nat} : ∀ {j x}, unW N S w j x = true ↔ ∃ y, x ≤ y ∧ y < x + j ∧ S (nN N w y) = -9
  | 0, x => by
    unfold unW
    constructor
    · intro h; cases h
    · rintro ⟨y, h1, h2, -⟩; omega
  | j + 1, x => by
    unfold unW
    by_cases e : S (nN N w x) = -9
    · rw [if_pos e]
      exact ⟨fun _ => ⟨x, Nat.le_refl _, by omega, e⟩, fun _ => rfl⟩
    · rw [if_neg e, unW_iff (j := j) (x := x + 1)]
      constructor
      · rintro ⟨y, h1, h2, h3⟩; exact ⟨y, by omega, by omega, h3⟩
      · rintro ⟨y, h1, h2, h3⟩
        by_cases q : y = x
        · rw [q] at h3; exact absurd h3 e
        · exact ⟨y, by omega, by omega, h3⟩
theorem unF_iff {N : NT} {S : Nat → Int32} : ∀ {j w}, unF N S j w = true ↔ ∃ v y, w ≤ v ∧ v < w + j ∧ y < nL N v ∧ S (nN N v y) = -9
  | 0, w => by
    unfold unF
    constructor
    · intro h; cases h
    · rintro ⟨v, y, h1, h2, -⟩; omega
  | j + 1, w => by
    unfold unF
    by_cases e : unW N S w (nL N w) 0 = true
    · rw [if_pos e]
      obtain ⟨y, h1, h2, h3⟩ := unW_iff.1 e
      exact ⟨fun _ => ⟨w, y, Nat.le_refl _, by omega, by omega, h3⟩, fun _ => rfl⟩
    · rw [if_neg e, unF_iff (j := j) (w := w + 1)]
      constructor
      · rintro ⟨v, y, h1, h2, h3⟩; exact ⟨v, y, by omega, by omega, h3⟩
      · rintro ⟨v, y, h1, h2, h3, h4⟩
        by_cases q : v = w
        · subst q
          exact absurd (unW_iff.2 ⟨y, by omega, by omega, h4⟩) e
        · exact ⟨v, y, by omega, by omega, h3, h4⟩
section C2
variable {sg c m : Hp} {N : NT}
theorem servC_in {K : Int32 → Hp → Option (Int32 × Hp)} {K2 : Hp → Option (Int32 × Hp)} {w : Nat} (h : stC sg N) (hw : w < nF N) : ∀ (j x F : Nat), j + x = nL N w → j < F → L_X0_isServedOnWays_12 K K2 F (nI w) (nI x) sg = if unW N (sg 10) w j x = true then K2 sg else K (nI w) sg := by
  obtain ⟨h0, h1, h2, h3, h4⟩ := h
  have hF := h0.1
  obtain ⟨g1, g2, g3⟩ := h3 w hw
  obtain ⟨l1, l2, l3, -⟩ := h0.2.2 w hw
  intro j
  induction j with
  | zero =>
    intro x F e1 e2
    obtain ⟨F, rfl⟩ : ∃ q, F = q + 1 := ⟨F - 1, by omega⟩
    rw [L_X0_isServedOnWays_12, gd_t (inbN (by omega) (by omega)), nI_clamp (by omega), g1, if_pos (by rw [leN (by omega) (by omega)]; omega), unW, if_neg (by decide)]
  | succ j ih =>
    intro x F e1 e2
    obtain ⟨F, rfl⟩ : ∃ q, F = q + 1 := ⟨F - 1, by omega⟩
    have n1 := l3 x (by omega)
    rw [L_X0_isServedOnWays_12, gd_t (inbN (by omega) (by omega)), nI_clamp (by omega), g1, if_neg (by rw [leN (by omega) (by omega)]; omega), gd_t (inbN (by omega) (by omega)), alW (by omega), gd_t (inbN (by omega) (by omega)), nI_clamp (by omega), g2 x (by omega), gd_t (inbN n1 (by omega)), nI_clamp (by omega), unW]
    by_cases e : sg 10 (nN N w x) = -9
    · rw [if_pos e, if_pos e, if_pos rfl]
    · rw [if_neg e, if_neg e, nI_1]
      exact ih (x + 1) F (by omega) (by omega)
theorem servC_out {K K2 : Hp → Option (Int32 × Hp)} (h : stC sg N) : ∀ (j w F : Nat), j + w = nF N → j < F → L_X0_isServedOnWays_2 K K2 F (nI w) sg = if unF N (sg 10) j w = true then K2 sg else K sg := by
  have h' := h
  obtain ⟨h0, h1, h2, h3, h4⟩ := h
  have hF := h0.1
  intro j
  induction j with
  | zero =>
    intro w F e1 e2
    obtain ⟨F, rfl⟩ : ∃ q, F = q + 1 := ⟨F - 1, by omega⟩
    rw [L_X0_isServedOnWays_2, h1, if_pos (by rw [leN (by omega) (by omega)]; omega), unF, if_neg (by decide)]
  | succ j ih =>
    intro w F e1 e2
    obtain ⟨F, rfl⟩ : ∃ q, F = q + 1 := ⟨F - 1, by omega⟩
    obtain ⟨l1, l2, l3, -⟩ := h0.2.2 w (by omega)
    rw [L_X0_isServedOnWays_2, h1, if_neg (by rw [leN (by omega) (by omega)]; omega), i0, servC_in h' (by omega) (nL N w) 0 200 (by omega) (by omega), unF]
    by_cases e : unW N (sg 10) w (nL N w) 0 = true
    · rw [if_pos e, if_pos e, if_pos rfl]
    · rw [if_neg e, if_neg e, nI_1]
      exact ih (w + 1) F (by omega) (by omega)
theorem uns_iff : unF N (c 10) (nF N) 0 = true ↔ unserved c N := by
  rw [unF_iff]
  constructor
  · rintro ⟨v, y, h1, h2, h3, h4⟩; exact ⟨v, y, by omega, h3, h4⟩
  · rintro ⟨v, y, h1, h2, h3⟩; exact ⟨v, y, by omega, by omega, h2, h3⟩
theorem servC_y (h : stC sg N) (hu : ¬ unserved sg N) : fX0_isServedOnWays sg = some (1, sg) := by
  unfold fX0_isServedOnWays
  rw [i0, servC_out h (nF N) 0 200 (by omega) (by have := h.1.1; omega), if_neg (fun q => hu (uns_iff.1 q))]
theorem servC_n (h : stC sg N) (hu : unserved sg N) : fX0_isServedOnWays sg = some (0, sg) := by
  unfold fX0_isServedOnWays
  rw [i0, servC_out h (nF N) 0 200 (by omega) (by have := h.1.1; omega), if_pos (uns_iff.2 hu)]
theorem placeC_in {K : Hp → Option (Int32 × Hp)} {K2 : Int32 → Hp → Option (Int32 × Hp)} {w v : Nat} (h : stC sg N) (hw : w < nF N) (hv : v < 6) : ∀ (j x F : Nat), j + x = nL N w → j < F → L_X0_placeOn_2 K K2 F (nI w) (nI v) (nI x) sg = match fndx (fun x => nN N w x == v) j x with
    | some y => K2 (nI y) sg
    | none => K sg := by
  obtain ⟨h0, h1, h2, h3, h4⟩ := h
  have hF := h0.1
  obtain ⟨g1, g2, g3⟩ := h3 w hw
  obtain ⟨l1, l2, l3, -⟩ := h0.2.2 w hw
  intro j
  induction j with
  | zero =>
    intro x F e1 e2
    obtain ⟨F, rfl⟩ : ∃ q, F = q + 1 := ⟨F - 1, by omega⟩
    rw [L_X0_placeOn_2, gd_t (inbN (by omega) (by omega)), nI_clamp (by omega), g1, if_pos (by rw [leN (by omega) (by omega)]; omega)]
    rfl
  | succ j ih =>
    intro x F e1 e2
    obtain ⟨F, rfl⟩ : ∃ q, F = q + 1 := ⟨F - 1, by omega⟩
    have n1 := l3 x (by omega)
    rw [L_X0_placeOn_2, gd_t (inbN (by omega) (by omega)), nI_clamp (by omega), g1, if_neg (by rw [leN (by omega) (by omega)]; omega), gd_t (inbN (by omega) (by omega)), alW (by omega), gd_t (inbN (by omega) (by omega)), nI_clamp (by omega), g2 x (by omega), fndx]
    by_cases e : nN N w x = v
    · rw [if_pos (by rw [e]), if_pos (by simpa using e)]
    · rw [if_neg (by rw [eqN (by omega) (by omega)]; exact e), if_neg (by simpa using e), nI_1]
      exact ih (x + 1) F (by omega) (by omega)
theorem placeC_s {w v x : Nat} (h : stC sg N) (hw : w < nF N) (hv : v < 6) (hp : plc N w v = some x) : fX0_placeOn (nI w) (nI v) sg = some (nI x, sg) := by
  unfold fX0_placeOn
  obtain ⟨l1, l2, l3, -⟩ := h.1.2.2 w hw
  rw [i0, placeC_in h hw hv (nL N w) 0 200 (by omega) (by omega)]
  unfold plc at hp
  rw [hp]
theorem placeC_n {w v : Nat} (h : stC sg N) (hw : w < nF N) (hv : v < 6) (hp : plc N w v = none) : fX0_placeOn (nI w) (nI v) sg = some (-1, sg) := by
  unfold fX0_placeOn
  obtain ⟨l1, l2, l3, -⟩ := h.1.2.2 w hw
  rw [i0, placeC_in h hw hv (nL N w) 0 200 (by omega) (by omega)]
  unfold plc at hp
  rw [hp]
theorem comes_ok {w x : Nat} (hw : w < 5) (hx : x < 5) : fX0_comesAt (nI w) (nI x) sg = some (150 + (5 * w + x), sg) := by
  unfold fX0_comesAt
  rw [show (5 : Int32) = nI 5 from rfl, pk_mul, nI_add, gd_t (inbN (by omega) (by omega)), nI_clamp (by omega), Nat.mul_comm w 5]
theorem goes_ok {w x : Nat} (hw : w < 5) (hx : x < 4) : fX0_goesOnFrom (nI w) (nI x) sg = some (150 + (5 * w + (x + 1)), sg) := by
  unfold fX0_goesOnFrom
  rw [show (5 : Int32) = nI 5 from rfl, pk_mul, nI_add, nI_1, gd_t (inbN (by omega) (by omega)), nI_clamp (by omega), Nat.mul_comm w 5, Nat.add_assoc]
theorem hasAt_ok {w x : Nat} (hw : w < 5) (hx : x < 4) : fX0_hasAt (nI w) (nI x) sg = some (180 + (4 * w + x), sg) := by
  unfold fX0_hasAt
  rw [i4, pk_mul, nI_add, gd_t (inbN (by omega) (by omega)), nI_clamp (by omega), Nat.mul_comm w 4]
theorem alH {i : Nat} (h : i < 20) : alen tC (180 + i) = 41 := by
  have : ∀ j, j < 20 → alen tC (180 + j) = 41 := by decide +kernel
  exact this i h
def butR (b : Int32) (o : Option Nat) : Prop := ∀ w, w < 5 → (nI w = b ↔ o = some w)
theorem but9 : butR (-9) none := fun w hw => ⟨fun h => absurd h (nn9 (by omega)), fun h => by cases h⟩
theorem butW {w : Nat} (hw : w < 5) : butR (nI w) (some w) := fun v hv => by
  rw [eqN (by omega) (by omega)]
  constructor
  · rintro rfl; rfl
  · intro h; cases h; rfl
theorem sumC_in {K : Hp → Option (Unit × Hp)} {v hi : Nat} {b : Int32} {o : Option Nat} (h : stC sg N) (hv : v < 6) (hhi : hi ≤ nF N) (hb : butR b o) : ∀ (j w F : Nat), j + w = hi → j < F → L_X0_sumComing_11 K F (nI v) (nI hi) b (nI w) (fil sg 20 (smC N (coC sg) v o w) 41) = K (fil sg 20 (smC N (coC sg) v o hi) 41) := by
  have hF := h.1.1
  intro j
  induction j with
  | zero =>
    intro w F e1 e2
    obtain ⟨F, rfl⟩ : ∃ q, F = q + 1 := ⟨F - 1, by omega⟩
    have : w = hi := by omega
    subst this
    rw [L_X0_sumComing_11, if_pos (by rw [leN (by omega) (by omega)]; omega)]
  | succ j ih =>
    intro w F e1 e2
    obtain ⟨F, rfl⟩ : ∃ q, F = q + 1 := ⟨F - 1, by omega⟩
    have hs : stC (fil sg 20 (smC N (coC sg) v o w) 41) N := stC_kp h (eqW.fil (fun j => by unfold wC; omega))
    rw [L_X0_sumComing_11, if_neg (by rw [leN (by omega) (by omega)]; omega)]
    unfold B_X0_sumComing_56
    rw [← ih (w + 1) F (by omega) (by omega), nI_1]
    cases hp : plc N w v with
    | none =>
      rw [placeC_n hs (by omega) hv hp, bnd_s, if_pos (by decide)]
      have e9 : smC N (coC sg) v o (w + 1) = smC N (coC sg) v o w := by
        show (match plc N w v with
          | some x => if o = some w then smC N (coC sg) v o w else sSum (smC N (coC sg) v o w) (coC sg w x)
          | none => smC N (coC sg) v o w) = _
        rw [hp]
      rw [e9]
    | some x =>
      obtain ⟨x1, x2, -⟩ := plc_some hp
      obtain ⟨l1, l2, l3, -⟩ := h.1.2.2 w (by omega)
      have e9 : smC N (coC sg) v o (w + 1) = if o = some w then smC N (coC sg) v o w else sSum (smC N (coC sg) v o w) (coC sg w x) := by
        show (match plc N w v with
          | some x => if o = some w then smC N (coC sg) v o w else sSum (smC N (coC sg) v o w) (coC sg w x)
          | none => smC N (coC sg) v o w) = _
        rw [hp]
      rw [placeC_s hs (by omega) hv hp, bnd_s, if_neg (nneg (by omega))]
      by_cases hbw : o = some w
      · rw [if_pos ((hb w (by omega)).2 hbw), e9, if_pos hbw]
      · rw [if_neg (fun q => hbw ((hb w (by omega)).1 q)), e9, if_neg hbw, comes_ok (by omega) (by omega), bnd_s, fillSum_ok a20 (alX (by omega)) a20, bnd_s, fil_fil]
        have e8 : fil sg 20 (sSum (fil sg 20 (smC N (coC sg) v o w) 41 20) (fil sg 20 (smC N (coC sg) v o w) 41 (150 + (5 * w + x)))) 41 = fil sg 20 (sSum (smC N (coC sg) v o w) (coC sg w x)) 41 := fil_cong (fun t ht => by
          unfold sSum
          rw [fil_in ht, fil_out (by omega)]
          rfl)
        rw [e8]
theorem sumC {v hi : Nat} {b : Int32} {o : Option Nat} (h : stC sg N) (hv : v < 6) (hhi : hi ≤ nF N) (hb : butR b o) : fX0_sumComing (nI v) (nI hi) b sg = some ((), fil sg 20 (smC N (coC sg) v o hi) 41) := by
  unfold fX0_sumComing
  rw [jfill_ok a20 (by omega) (by omega), bnd_s]
  exact sumC_in h hv hhi hb hi 0 200 (by omega) (by have := h.1.1; omega)
theorem ok_smC {co : Nat → Nat → Nat → Int32} {v : Nat} {o : Option Nat} (hco : ∀ w x, w < nF N → x < nL N w → nN N w x = v → okRow (co w x)) : ∀ {hi}, hi ≤ nF N → okRow (smC N co v o hi)
  | 0, _ => ok_zero
  | w + 1, hw => by
    have ih := ok_smC (o := o) hco (hi := w) (by omega)
    unfold smC
    cases hp : plc N w v with
    | none => exact ih
    | some x =>
      obtain ⟨x1, x2, -⟩ := plc_some hp
      by_cases hb : o = some w
      · simp only [if_pos hb]; exact ih
      · simp only [if_neg hb]; exact ok_sum ih (hco w x (by omega) x1 x2)
theorem rowB_ha {co : Nat → Nat → Nat → Int32} {w x : Nat} (hw : w < nF N) (hS : okRow (nS N (nN N w x))) (hco : ∀ w' x', w' < nF N → x' < nL N w' → nN N w' x' = nN N w x → okRow (co w' x')) : rowB (haOf N co w x) := by
  unfold haOf
  by_cases hr : nR N = 2
  · rw [if_pos hr]; exact hS.2.1
  · rw [if_neg hr]
    refine rowB_left hS.2.1 (ok_smC hco ?_).2.1
    by_cases h0 : nR N = 0
    · rw [if_pos h0]; omega
    · rw [if_neg h0]; exact Nat.le_refl _
theorem ok_go {co : Nat → Nat → Nat → Int32} {w x : Nat} (hw : w < nF N) (hx : x < nL N w) (hS : okRow (nS N (nN N w x))) (hco : ∀ w' x', w' < nF N → x' < nL N w' → nN N w' x' = nN N w x → okRow (co w' x')) : okRow (goOf N co w x) := by
  unfold goOf
  by_cases hr : nR N = 2
  · rw [if_pos hr]; exact ok_ahead (hco w x hw hx rfl)
  · rw [if_neg hr]; exact ok_out (hco w x hw hx rfl) (rowB_ha hw hS hco)
theorem la_cases (N : NT) (co : Nat → Nat → Nat → Int32) (w x : Nat) : laOf N co w x = -9 ∨ ∃ q, q ≤ 40 ∧ laOf N co w x = nI q := by
  unfold laOf
  by_cases hr : nR N = 2
  · rw [if_pos hr]; exact sWait_cases _ _ (by omega)
  · rw [if_neg hr]; exact sWait_cases _ _ (by omega)
/-- one place is worked out -/
theorem at_122 {w x : Nat} {s : Hp} (h : stC sg N) (hw : w < nF N) (hx : x < nL N w) (hk : ∀ b j, ¬ (b = 20 ∨ b = 180 + (4 * w + x)) → s b j = sg b j) (hha : req (s (180 + (4 * w + x))) (haOf N (coC sg) w x)) : ∃ r d, B_X0_workOutAt_122 (nI w) (nI x) (laOf N (coC sg) w x) s = some (r, d) ∧ (∀ b j, ¬ (b = 20 ∨ b = 180 + (4 * w + x) ∨ (b = 17 ∧ j = 4 * w + x) ∨ b = 150 + (5 * w + (x + 1))) → d b j = sg b j) ∧ ((r = 0 ∧ laOf N (coC sg) w x = -9) ∨ (r = 1 ∧ laOf N (coC sg) w x ≠ -9 ∧ req (d (180 + (4 * w + x))) (haOf N (coC sg) w x) ∧ d 17 (4 * w + x) = laOf N (coC sg) w x ∧ req (d (150 + (5 * w + (x + 1)))) (goOf N (coC sg) w x))) := by
  have hF := h.1.1
  obtain ⟨l1, l2, l3, -⟩ := h.1.2.2 w hw
  have hR := h.1.2.1
  unfold B_X0_workOutAt_122 B_X0_workOutAt_192
  rcases la_cases N (coC sg) w x with e | ⟨q, hq, e⟩
  · exact ⟨0, s, by rw [if_pos e], fun b j hb => hk b j (by omega), Or.inl ⟨rfl, e⟩⟩
  · have n9 : ¬ laOf N (coC sg) w x = -9 := by rw [e]; exact nn9 (by omega)
    rw [if_neg n9, i4, pk_mul, nI_add, gd_t (inbN (by omega) (by omega)), nI_clamp (by omega), Nat.mul_comm w 4]
    generalize hs : up2 s 17 (4 * w + x) (laOf N (coC sg) w x) = s2
    have k2 : ∀ b j, ¬ (b = 17 ∧ j = 4 * w + x) → s2 b j = s b j := fun b j hb => by rw [← hs, up2_o (by omega)]
    have s17 : s2 17 (4 * w + x) = laOf N (coC sg) w x := by rw [← hs, up2_s]
    have s26 : s2 2 6 = nI (nR N) := by rw [k2 2 6 (by omega), hk 2 6 (by omega)]; exact h.2.2.1
    have sco : ∀ t, s2 (150 + (5 * w + x)) t = coC sg w x t := fun t => by rw [k2 _ _ (by omega), hk _ _ (by omega)]; rfl
    have sha : req (s2 (180 + (4 * w + x))) (haOf N (coC sg) w x) := fun t ht => by rw [k2 _ _ (by omega)]; exact hha t ht
    by_cases hr : nR N = 2
    · rw [if_pos (by rw [s26, hr]; rfl), comes_ok (by omega) (by omega), bnd_s, goes_ok (by omega) (by omega), bnd_s, e, fillAhead_ok hq (alX (by omega)) (alX (by omega)) (by omega), bnd_s]
      refine ⟨1, _, rfl, fun b j hb => ?_, Or.inr ⟨rfl, by rw [← e]; exact n9, ?_, ?_, ?_⟩⟩
      · rw [fil_out (by omega), k2 b j (by omega), hk b j (by omega)]
      · intro t ht; rw [fil_out (by omega)]; exact sha t ht
      · rw [fil_out (by omega), s17, e]
      · intro t ht
        rw [fil_in ht]
        unfold goOf
        rw [if_pos hr, e, nI_clamp (by omega)]
        exact sAhead_cong (fun t _ => sco t) t ht
    · rw [if_neg (by rw [s26, show (2 : Int32) = nI 2 from rfl, eqN (by omega) (by omega)]; exact hr), comes_ok (by omega) (by omega), bnd_s, hasAt_ok (by omega) (by omega), bnd_s, goes_ok (by omega) (by omega), bnd_s, fillOut_ok (alX (by omega)) (alH (by omega)) (alX (by omega)) (by omega) (by omega), bnd_s]
      refine ⟨1, _, rfl, fun b j hb => ?_, Or.inr ⟨rfl, n9, ?_, ?_, ?_⟩⟩
      · rw [fil_out (by omega), k2 b j (by omega), hk b j (by omega)]
      · intro t ht; rw [fil_out (by omega)]; exact sha t ht
      · rw [fil_out (by omega), s17]
      · intro t ht
        rw [fil_in ht]
        unfold goOf
        rw [if_neg hr]
        exact sOut_cong (fun t _ => sco t) sha t ht
theorem at_80 {w x hi : Nat} (h : stC sg N) (hw : w < nF N) (hx : x < nL N w) (hS : req (sg (130 + nN N w x)) (nS N (nN N w x))) (hr : nR N ≠ 2) (hhi : hi = if nR N = 0 then w else nF N) (hco : ∀ w' x', w' < nF N → x' < nL N w' → nN N w' x' = nN N w x → okRow (coC sg w' x')) : ∃ s, B_X0_workOutAt_80 (nI w) (nI x) (nI (nN N w x)) (nI hi) (nI (nN N w x)) sg = B_X0_workOutAt_122 (nI w) (nI x) (laOf N (coC sg) w x) s ∧ (∀ b j, ¬ (b = 20 ∨ b = 180 + (4 * w + x)) → s b j = sg b j) ∧ req (s (180 + (4 * w + x))) (haOf N (coC sg) w x) := by
  have hF := h.1.1
  obtain ⟨l1, l2, l3, -⟩ := h.1.2.2 w hw
  have hv := l3 x hx
  have hhi2 : hi ≤ nF N := by
    rw [hhi]
    by_cases h0 : nR N = 0
    · rw [if_pos h0]; omega
    · rw [if_neg h0]; exact Nat.le_refl _
  have e1 := sumC (sg := sg) h hv hhi2 (butW (w := w) (by omega))
  generalize hs : fil sg 20 (smC N (coC sg) (nN N w x) (some w) hi) 41 = s1 at e1
  have k1 : ∀ b j, b ≠ 20 → s1 b j = sg b j := fun b j hb => by rw [← hs, fil_out (by omega)]
  have s20 : req (s1 20) (smC N (coC sg) (nN N w x) (some w) hi) := fun t ht => by rw [← hs, fil_in ht]
  have s130 : req (s1 (130 + nN N w x)) (nS N (nN N w x)) := fun t ht => by rw [k1 _ _ (by omega)]; exact hS t ht
  have eha : haOf N (coC sg) w x = sLeft (nS N (nN N w x)) (smC N (coC sg) (nN N w x) (some w) hi) := by
    unfold haOf
    rw [if_neg hr, hhi]
  have k2 : ∀ b j, ¬ (b = 20 ∨ b = 180 + (4 * w + x)) → fil s1 (180 + (4 * w + x)) (sLeft (s1 (130 + nN N w x)) (s1 20)) 41 b j = sg b j := fun b j hb => by rw [fil_out (by omega), k1 b j (by omega)]
  have sha : req (fil s1 (180 + (4 * w + x)) (sLeft (s1 (130 + nN N w x)) (s1 20)) 41 (180 + (4 * w + x))) (haOf N (coC sg) w x) := fun t ht => by
    rw [fil_in ht, eha]
    exact sLeft_cong s130 s20 t ht
  refine ⟨fil s1 (180 + (4 * w + x)) (sLeft (s1 (130 + nN N w x)) (s1 20)) 41, ?_, k2, sha⟩
  have okc := hco w x hw hx rfl
  have sco : ∀ t, fil s1 (180 + (4 * w + x)) (sLeft (s1 (130 + nN N w x)) (s1 20)) 41 (150 + (5 * w + x)) t = coC sg w x t := fun t => k2 _ _ (by omega)
  unfold B_X0_workOutAt_80
  rw [e1, bnd_s, gd_t (inbN hv (by omega)), hasAt_ok (by omega) (by omega), bnd_s, nI_clamp (by omega), fillLeft_ok (alD hv) a20 (alH (by omega)), bnd_s, comes_ok (by omega) (by omega), bnd_s, hasAt_ok (by omega) (by omega), bnd_s, i20, longestWait_ok (alX (by omega)) (alH (by omega)) (by omega) (fun t ht => by rw [sco, sco]; exact okc.2.2 t (by omega)), bnd_s]
  have ela : laOf N (coC sg) w x = sWait (fil s1 (180 + (4 * w + x)) (sLeft (s1 (130 + nN N w x)) (s1 20)) 41 (150 + (5 * w + x))) (fil s1 (180 + (4 * w + x)) (sLeft (s1 (130 + nN N w x)) (s1 20)) 41 (180 + (4 * w + x))) 20 := by
    unfold laOf
    rw [if_neg hr]
    exact (sWait_cong (fun t _ => sco t) sha).symm
  rw [ela]
theorem workAt {w x : Nat} (h : stC sg N) (hw : w < nF N) (hx : x < nL N w) (hu : ¬ unserved sg N) (hco : ∀ w' x', w' < nF N → x' < nL N w' → nN N w' x' = nN N w x → okRow (coC sg w' x')) : ∃ r d, fX0_workOutAt (nI w) (nI x) sg = some (r, d) ∧ (∀ b j, ¬ (b = 20 ∨ b = 180 + (4 * w + x) ∨ (b = 17 ∧ j = 4 * w + x) ∨ b = 150 + (5 * w + (x + 1))) → d b j = sg b j) ∧ ((r = 0 ∧ laOf N (coC sg) w x = -9) ∨ (r = 1 ∧ laOf N (coC sg) w x ≠ -9 ∧ req (d (180 + (4 * w + x))) (haOf N (coC sg) w x) ∧ d 17 (4 * w + x) = laOf N (coC sg) w x ∧ req (d (150 + (5 * w + (x + 1)))) (goOf N (coC sg) w x))) := by
  have hF := h.1.1
  have hR3 := h.1.2.1
  obtain ⟨l1, l2, l3, -⟩ := h.1.2.2 w hw
  have hv := l3 x hx
  obtain ⟨g1, g2, g3⟩ := h.2.2.2.1 w hw
  have h9 : sg 10 (nN N w x) ≠ -9 := fun q => hu ⟨w, x, hw, hx, q⟩
  obtain ⟨hS, okS⟩ := h.2.2.2.2 _ hv h9
  unfold fX0_workOutAt
  rw [gd_t (inbN (by omega) (by omega)), nI_clamp (by omega), alW (by omega), gd_t (inbN (by omega) (by omega)), nI_clamp (by omega), g2 x hx, h.2.2.1, h.2.1]
  by_cases hr : nR N = 2
  · rw [if_pos (by rw [hr]; rfl), sumC h hv (Nat.le_refl _) but9, bnd_s]
    generalize hs : fil sg 20 (smC N (coC sg) (nN N w x) none (nF N)) 41 = s1
    have k1 : ∀ b j, b ≠ 20 → s1 b j = sg b j := fun b j hb => by rw [← hs, fil_out (by omega)]
    have s20 : req (s1 20) (smC N (coC sg) (nN N w x) none (nF N)) := fun t ht => by rw [← hs, fil_in ht]
    have s130 : req (s1 (130 + nN N w x)) (nS N (nN N w x)) := fun t ht => by rw [k1 _ _ (by omega)]; exact hS t ht
    have oks : okRow (smC N (coC sg) (nN N w x) none (nF N)) := ok_smC hco (Nat.le_refl _)
    rw [gd_t (inbN hv (by omega)), hasAt_ok (by omega) (by omega), bnd_s, nI_clamp (by omega), fillSame_ok (alD hv) (alH (by omega)), bnd_s, gd_t (inbN hv (by omega))]
    have k2 : ∀ b j, ¬ (b = 20 ∨ b = 180 + (4 * w + x)) → fil s1 (180 + (4 * w + x)) (s1 (130 + nN N w x)) 41 b j = sg b j := fun b j hb => by rw [fil_out (by omega), k1 b j (by omega)]
    have t20 : req (fil s1 (180 + (4 * w + x)) (s1 (130 + nN N w x)) 41 20) (smC N (coC sg) (nN N w x) none (nF N)) := fun t ht => by rw [fil_out (by omega)]; exact s20 t ht
    have t130 : req (fil s1 (180 + (4 * w + x)) (s1 (130 + nN N w x)) 41 (130 + nN N w x)) (nS N (nN N w x)) := fun t ht => by rw [fil_out (by omega)]; exact s130 t ht
    have sha : req (fil s1 (180 + (4 * w + x)) (s1 (130 + nN N w x)) 41 (180 + (4 * w + x))) (haOf N (coC sg) w x) := fun t ht => by
      rw [fil_in ht]
      unfold haOf
      rw [if_pos hr]
      exact s130 t ht
    rw [i20, longestWait_ok a20 (alD hv) (by omega) (fun t ht => by rw [t20 t (by omega), t20 (t + 1) (by omega)]; exact oks.2.2 t (by omega)), bnd_s]
    have ela : sWait (fil s1 (180 + (4 * w + x)) (s1 (130 + nN N w x)) 41 20) (fil s1 (180 + (4 * w + x)) (s1 (130 + nN N w x)) 41 (130 + nN N w x)) 20 = laOf N (coC sg) w x := by
      unfold laOf
      rw [if_pos hr]
      exact sWait_cong (fun t ht => t20 t (by omega)) t130
    rw [ela]
    exact at_122 h hw hx k2 sha
  · rw [if_neg (by rw [show (2 : Int32) = nI 2 from rfl, eqN (by omega) (by omega)]; exact hr)]
    by_cases h0 : nR N = 0
    · rw [if_pos (by rw [h0]; rfl)]
      obtain ⟨s, e1, e2, e3⟩ := at_80 (hi := w) h hw hx hS hr (by rw [if_pos h0]) hco
      rw [e1]
      exact at_122 h hw hx e2 e3
    · rw [if_neg (by rw [i0, eqN (by omega) (by omega)]; exact h0)]
      obtain ⟨s, e1, e2, e3⟩ := at_80 (hi := nF N) h hw hx hS hr (by rw [if_neg h0]) hco
      rw [e1]
      exact at_122 h hw hx e2 e3
end C2
