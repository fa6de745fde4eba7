/-! the reference's network: rounds, served, places, sums -/
def wM (b j : Nat) : Prop := b = 317 ∨ b = 318 ∨ (b = 303 ∧ 984 ≤ j ∧ j < 3608)
def eqV (c d : Hp) : Prop := ∀ b j, ¬ wM b j → d b j = c b j
theorem eqV.r {c : Hp} : eqV c c := fun _ _ _ => rfl
theorem eqV.t {c d e : Hp} (h : eqV c d) (h2 : eqV d e) : eqV c e := fun b j hn => (h2 b j hn).trans (h b j hn)
theorem eqV.fil {c : Hp} {F : Nat → Int32} {t : Nat} : eqV c (fil c 317 F t) := fun a i hn => fil_out (Or.inl (fun e => hn (by unfold wM; omega)))
theorem eqV.up {c : Hp} {j : Nat} {x : Int32} : eqV c (up2 c 318 j x) := fun a i hn => up2_o (Or.inl (fun e => hn (by unfold wM; omega)))
theorem eqV.filM {c : Hp} {f : Nat} {F : Nat → Int32} (h1 : 24 ≤ f) (h2 : f < 88) : eqV c (filM c f F 41) := fun a i hn => by
  unfold _root_.Jvm.Pilot.@@N@@.filM
  rw [if_neg (fun e => hn (by unfold wM; omega))]
def stM (m : Hp) (N : NT) : Prop := wfN N ∧ m 300 12 = nI (nF N) ∧ m 300 16 = nI (nR N) ∧ (∀ w, w < nF N → m 314 w = nI (nL N w) ∧ (∀ x, x < nL N w → m 315 (4 * w + x) = nI (nN N w x)) ∧ ∃ f, f < 24 ∧ m 313 w = nI f ∧ req (mr m f) (nO N w)) ∧ ∀ v, v < 6 → m 311 v ≠ -9 → ∃ f, f < 24 ∧ m 311 v = nI f ∧ req (mr m f) (nS N v) ∧ okRow (nS N v)
theorem mr_kp {c d : Hp} {f : Nat} (hk : eqV c d) (hf : f < 24) : req (mr d f) (mr c f) := fun t ht => hk _ _ (by unfold wM; omega)
theorem stM_kp {c d : Hp} {N : NT} (h : stM c N) (hk : eqV c d) : stM d N := by
  obtain ⟨h0, h1, h2, h3, h4⟩ := h
  have hF := h0.1
  refine ⟨h0, by rw [hk 300 12 (by unfold wM; omega)]; exact h1, by rw [hk 300 16 (by unfold wM; omega)]; exact h2, fun w hw => ?_, fun v hv h9 => ?_⟩
  · obtain ⟨g1, g2, f, g3, g4, g5⟩ := h3 w hw
    exact ⟨by rw [hk 314 w (by unfold wM; omega)]; exact g1, fun x hx => by rw [hk 315 (4 * w + x) (by unfold wM; omega)]; exact g2 x hx, f, g3, by rw [hk 313 w (by unfold wM; omega)]; exact g4, (mr_kp hk g3).trans g5⟩
  · rw [hk 311 v (by unfold wM; omega)] at h9 ⊢
    obtain ⟨f, g1, g2, g3, g4⟩ := h4 v hv h9
    exact ⟨f, g1, g2, (mr_kp hk g1).trans g3, g4⟩
section C4
variable {sg c m : Hp} {N : NT}
def fl (b : Bool) : Int32 := if b = true then 1 else 0
def S317 (sg : Hp) (r : Nat → Nat) : Hp := fil sg 317 (fun v => nI (r v)) 6
theorem fold_bd : ∀ {E : List (Nat × Nat)} {s : Bool × (Nat → Nat)} {B : Nat}, (∀ v, s.2 v ≤ B) → ∀ v, (E.foldl rlx s).2 v ≤ B + E.length
  | [], s, B, h => fun v => by have := h v; show s.2 v ≤ B + 0; omega
  | e :: E, s, B, h => fun v => by
    have := fold_bd (E := E) (s := rlx s e) (B := B + 1) (fun y => by
      show (if y = e.2 then max (s.2 e.2) (s.2 e.1 + 1) else s.2 y) ≤ B + 1
      have h1 := h e.1
      have h2 := h e.2
      have h3 := h y
      by_cases q : y = e.2
      · rw [if_pos q]; omega
      · rw [if_neg q]; omega) v
    show (E.foldl rlx (rlx s e)).2 v ≤ B + (E.length + 1)
    omega
theorem edW_len {w : Nat} : ∀ {j x}, (edW N w j x).length = j
  | 0, _ => rfl
  | j + 1, x => by
    unfold edW
    rw [List.length_cons, edW_len]
theorem rnd_in {K : Int32 → Int32 → Int32 → Hp → Option (Int32 × Hp)} {v2 : Int32} {w : Nat} (h : stM sg N) (hw : w < nF N) : ∀ (j x F B : Nat) (b : Bool) (r : Nat → Nat), j + x = nL N w → 1 ≤ x → j < F → (∀ v, r v ≤ B) → B + j ≤ 100000 → L_X7_layRounds_50 K F (fl b) v2 (nI w) (nI x) (S317 sg r) = K (fl ((edW N w j x).foldl rlx (b, r)).1) v2 (nI w) (S317 sg ((edW N w j x).foldl rlx (b, r)).2) := by
  obtain ⟨h0, h1, h2, h3, h4⟩ := h
  have hF := h0.1
  obtain ⟨g1, g2, -⟩ := h3 w hw
  obtain ⟨l1, l2, l3, -⟩ := h0.2.2 w hw
  intro j
  induction j with
  | zero =>
    intro x F B b r e1 e2 e3 e4 e5
    obtain ⟨F, rfl⟩ : ∃ q, F = q + 1 := ⟨F - 1, by omega⟩
    have q14 : S317 sg r 314 w = nI (nL N w) := by unfold S317; rw [fil_out (by omega)]; exact g1
    rw [L_X7_layRounds_50, gd_t (inbN (by omega) (by omega)), nI_clamp (by omega), q14, if_pos (by rw [leN (by omega) (by omega)]; omega)]
    rfl
  | succ j ih =>
    intro x F B b r e1 e2 e3 e4 e5
    obtain ⟨F, rfl⟩ : ∃ q, F = q + 1 := ⟨F - 1, by omega⟩
    have q14 : S317 sg r 314 w = nI (nL N w) := by unfold S317; rw [fil_out (by omega)]; exact g1
    have q15 : ∀ i, i < nL N w → S317 sg r 315 (4 * w + i) = nI (nN N w i) := fun i hi => by unfold S317; rw [fil_out (by omega)]; exact g2 i hi
    have n1 := l3 x (by omega)
    have n2 := l3 (x - 1) (by omega)
    have q17 : ∀ v, v < 6 → S317 sg r 317 v = nI (r v) := fun v hv => by unfold S317; rw [fil_in hv]
    have b1 := e4 (nN N w x)
    have b2 := e4 (nN N w (x - 1))
    have ex : (4 : Int32) * nI w + nI x - 1 = nI (4 * w + (x - 1)) := by rw [i4, pk_mul, nI_add, subN1 (by omega)]; congr 1; omega
    have ex2 : (4 : Int32) * nI w + nI x = nI (4 * w + x) := by rw [i4, pk_mul, nI_add]
    have bd : ∀ v, (rlx (b, r) (nN N w (x - 1), nN N w x)).2 v ≤ B + 1 := fun v => by
      show (if v = nN N w x then max (r (nN N w x)) (r (nN N w (x - 1)) + 1) else r v) ≤ B + 1
      have h3 := e4 v
      by_cases q : v = nN N w x
      · rw [if_pos q]; omega
      · rw [if_neg q]; omega
    have e9 : up2 (S317 sg r) 317 (nN N w x) (nI (max (r (nN N w x)) (r (nN N w (x - 1)) + 1))) = S317 sg (rlx (b, r) (nN N w (x - 1), nN N w x)).2 := by
      unfold S317
      rw [fil_set n1]
      refine fil_cong (fun i hi => ?_)
      show (if i = nN N w x then nI (max (r (nN N w x)) (r (nN N w (x - 1)) + 1)) else nI (r i)) = nI (if i = nN N w x then max (r (nN N w x)) (r (nN N w (x - 1)) + 1) else r i)
      by_cases q : i = nN N w x
      · rw [if_pos q, if_pos q]
      · rw [if_neg q, if_neg q]
    have fin : ∀ (z : Int32), z = fl (rlx (b, r) (nN N w (x - 1), nN N w x)).1 → B_X7_layRounds_115 (L_X7_layRounds_50 K F) v2 (nI w) (nI x) (nI (nN N w (x - 1))) (nI (nN N w x)) z (S317 sg r) = K (fl ((edW N w j (x + 1)).foldl rlx (rlx (b, r) (nN N w (x - 1), nN N w x))).1) v2 (nI w) (S317 sg ((edW N w j (x + 1)).foldl rlx (rlx (b, r) (nN N w (x - 1), nN N w x))).2) := by
      intro z hz
      unfold B_X7_layRounds_115
      rw [gd_t (inbN n1 (by omega)), gd_t (inbN n2 (by omega)), nI_clamp (by omega), nI_clamp (by omega), q17 _ n1, q17 _ n2, nI_1, greater_ok, bnd_s, mxN (by omega) (by omega), gd_t (inbN n1 (by omega)), e9, nI_1, hz]
      exact ih (x + 1) F (B + 1) (rlx (b, r) (nN N w (x - 1), nN N w x)).1 (rlx (b, r) (nN N w (x - 1), nN N w x)).2 (by omega) (by omega) (by omega) bd (by omega)
    rw [L_X7_layRounds_50, gd_t (inbN (by omega) (by omega)), nI_clamp (by omega), q14, if_neg (by rw [leN (by omega) (by omega)]; omega), ex, ex2, gd_t (inbN (by omega) (by omega)), gd_t (inbN (by omega) (by omega)), nI_clamp (by omega), nI_clamp (by omega), q15 x (by omega), q15 (x - 1) (by omega), gd_t (inbN n1 (by omega)), gd_t (inbN n2 (by omega)), nI_clamp (by omega), nI_clamp (by omega), q17 _ n1, q17 _ n2]
    unfold B_X7_layRounds_110
    show _ = K (fl ((edW N w j (x + 1)).foldl rlx (rlx (b, r) (nN N w (x - 1), nN N w x))).1) v2 (nI w) (S317 sg ((edW N w j (x + 1)).foldl rlx (rlx (b, r) (nN N w (x - 1), nN N w x))).2)
    cases b with
    | true =>
      rw [if_neg (show ¬ fl true = 0 by decide)]
      exact fin 1 (by
        show (1 : Int32) = fl (true || !decide (r (nN N w (x - 1)) < r (nN N w x)))
        rw [Bool.true_or]; rfl)
    | false =>
      rw [if_pos (show fl false = 0 by decide)]
      by_cases q : r (nN N w (x - 1)) < r (nN N w x)
      · rw [if_pos (by rw [ltN (by omega) (by omega)]; exact q)]
        exact fin 0 (by
          show (0 : Int32) = fl (false || !decide (r (nN N w (x - 1)) < r (nN N w x)))
          rw [decide_eq_true q]; rfl)
      · rw [if_neg (by rw [ltN (by omega) (by omega)]; exact q)]
        exact fin 1 (by
          show (1 : Int32) = fl (false || !decide (r (nN N w (x - 1)) < r (nN N w x)))
          rw [decide_eq_false q]; rfl)
theorem rnd_mid {K : Int32 → Int32 → Hp → Option (Int32 × Hp)} {v2 : Int32} (h : stM sg N) : ∀ (j w F B : Nat) (b : Bool) (r : Nat → Nat), j + w = nF N → j < F → (∀ v, r v ≤ B) → B + 4 * j ≤ 100000 → L_X7_layRounds_39 K F (fl b) v2 (nI w) (S317 sg r) = K (fl ((edF N j w).foldl rlx (b, r)).1) v2 (S317 sg ((edF N j w).foldl rlx (b, r)).2) := by
  have h' := h
  obtain ⟨h0, h1, h2, h3, h4⟩ := h
  have hF := h0.1
  intro j
  induction j with
  | zero =>
    intro w F B b r e1 e2 e3 e4
    obtain ⟨F, rfl⟩ : ∃ q, F = q + 1 := ⟨F - 1, by omega⟩
    have q12 : S317 sg r 300 12 = nI (nF N) := by unfold S317; rw [fil_out (by omega)]; exact h1
    rw [L_X7_layRounds_39, q12, if_pos (by rw [leN (by omega) (by omega)]; omega)]
    rfl
  | succ j ih =>
    intro w F B b r e1 e2 e3 e4
    obtain ⟨F, rfl⟩ : ∃ q, F = q + 1 := ⟨F - 1, by omega⟩
    obtain ⟨l1, l2, l3, -⟩ := h0.2.2 w (by omega)
    have q12 : S317 sg r 300 12 = nI (nF N) := by unfold S317; rw [fil_out (by omega)]; exact h1
    have bd : ∀ v, ((edW N w (nL N w - 1) 1).foldl rlx (b, r)).2 v ≤ B + 4 := fun v => by
      have := fold_bd (E := edW N w (nL N w - 1) 1) (s := (b, r)) e3 v
      rw [edW_len] at this
      omega
    rw [L_X7_layRounds_39, q12, if_neg (by rw [leN (by omega) (by omega)]; omega), i1, rnd_in h' (show w < nF N by omega) (nL N w - 1) 1 200 B b r (by omega) (by omega) (by omega) e3 (by omega), nI_add]
    unfold edF
    rw [List.foldl_append]
    exact ih (w + 1) F (B + 4) _ _ (by omega) (by omega) bd (by omega)
theorem edF_len (h : wfN N) : ∀ {j w}, j + w = nF N → (edF N j w).length ≤ 4 * j
  | 0, _, _ => Nat.le_refl _
  | j + 1, w, e => by
    unfold edF
    have := (h.2.2 w (by omega)).2.1
    have ih := edF_len h (j := j) (w := w + 1) (by omega)
    rw [List.length_append, edW_len]
    omega
theorem rnd_out {K : Int32 → Hp → Option (Int32 × Hp)} (h : stM sg N) : ∀ (j p F B : Nat) (r : Nat → Nat), j + p = 7 → j < F → (∀ v, r v ≤ B) → B + 20 * j ≤ 100000 → L_X7_layRounds_25 K F 1 (nI p) (S317 sg r) = K (if (rds (edg N) j r).1 = true then 0 else 1) (S317 sg (rds (edg N) j r).2) := by
  have hF := h.1.1
  intro j
  induction j with
  | zero =>
    intro p F B r e1 e2 e3 e4
    obtain ⟨F, rfl⟩ : ∃ q, F = q + 1 := ⟨F - 1, by omega⟩
    rw [L_X7_layRounds_25, if_pos (by rw [show (7 : Int32) = nI 7 from rfl, leN (by omega) (by omega)]; omega)]
    rfl
  | succ j ih =>
    intro p F B r e1 e2 e3 e4
    obtain ⟨F, rfl⟩ : ∃ q, F = q + 1 := ⟨F - 1, by omega⟩
    have key := rnd_mid (K := fun (w7_1 : Int32) (w7_2 : Int32) (s8 : Hp) => (L_X7_layRounds_25 K F) w7_1 (w7_2 + (1 : Int32)) s8) (v2 := nI p) h (nF N) 0 200 B false r (by omega) (by omega) e3 (by omega)
    rw [L_X7_layRounds_25, if_neg (by rw [show (7 : Int32) = nI 7 from rfl, leN (by omega) (by omega)]; omega), if_neg ne10]
    show L_X7_layRounds_39 _ 200 (fl false) (nI p) (nI 0) (S317 sg r) = _
    rw [key, nI_1]
    show L_X7_layRounds_25 K F (fl ((edg N).foldl rlx (false, r)).1) (nI (p + 1)) (S317 sg ((edg N).foldl rlx (false, r)).2) = _
    have bd : ∀ v, ((edg N).foldl rlx (false, r)).2 v ≤ B + 20 := fun v => by
      have := fold_bd (E := edg N) (s := (false, r)) e3 v
      have h2 := edF_len h.1 (j := nF N) (w := 0) (by omega)
      have h3 : (edg N).length ≤ 4 * nF N := h2
      omega
    unfold rds
    cases hq : ((edg N).foldl rlx (false, r)).1 with
    | true =>
      rw [if_neg (show ¬ (true = false) by decide)]
      exact ih (p + 1) F (B + 20) _ (by omega) (by omega) bd (by omega)
    | false =>
      obtain ⟨F, rfl⟩ : ∃ q, F = q + 1 := ⟨F - 1, by omega⟩
      rw [if_pos rfl, L_X7_layRounds_25, if_pos rfl, if_pos (show fl false = 0 by decide)]
      by_cases h7 : (7 : Int32) ≤ nI (p + 1)
      · rw [if_pos h7]; rfl
      · rw [if_neg h7]; rfl
theorem rnd_0 {K : Hp → Option (Int32 × Hp)} : L_X7_layRounds_2 K 200 0 sg = K (S317 sg (fun _ => 0)) := by
  have := nloop (N := 6) (M := 0) (fun f t => L_X7_layRounds_2 K f (nI t) (fil sg 317 (fun _ => 0) t)) (K (fil sg 317 (fun _ => 0) 6))
    (fun f t h1 ht => by
      rw [L_X7_layRounds_2, if_neg (nlt6 ht), gd_t (inbN ht (by omega)), nI_clamp (by omega), fil_up rfl, nI_1])
    (fun f => by
      rw [L_X7_layRounds_2, if_pos (by decide)])
    200 0 (by omega) (by omega) (by omega)
  rw [fil_0] at this
  exact this
def rnds (N : NT) : Bool × (Nat → Nat) := rds (edg N) 7 (fun _ => 0)
theorem rounds_ok (h : stM sg N) : fX7_layRounds sg = some (if (rnds N).1 = true then 1 else 0, S317 sg (rnds N).2) := by
  unfold fX7_layRounds B_X7_layRounds_169
  rw [rnd_0]
  show L_X7_layRounds_25 _ 200 1 (nI 0) _ = _
  rw [rnd_out h 7 0 200 0 (fun _ => 0) (by omega) (by omega) (fun _ => Nat.le_refl _) (by omega)]
  unfold rnds
  cases (rds (edg N) 7 fun _ => 0).1 with
  | true => rfl
  | false => rfl
theorem rnds_yes (hw : wfN N) {ρ : Nat → Nat} (hr : rnk N ρ) : (rnds N).1 = true ∧ ∀ v, v < 6 → (rnds N).2 v ≤ 5 := by
  obtain ⟨σ, s1, s2, -⟩ := ordr_rank hw (ordr_yes hw hr)
  have hE := rnk_rkE.1 s1
  refine ⟨rds_yes hE (fun e _ => s2 e.2) (k := 0) (by omega) (by omega) (fun e he h0 => by
    have := hE e he
    omega), fun v _ => ?_⟩
  have := rds_le hE (j := 7) (r := fun _ => 0) (fun v => Nat.zero_le _) v
  have h5 := s2 v
  show (rds (edg N) 7 (fun _ => 0)).2 v ≤ 5
  omega
theorem rnds_rnk (h : (rnds N).1 = true) : rnk N (rnds N).2 := rnk_rkE.2 (rds_rk h)
/-! served -/
def unsM (m : Hp) (N : NT) : Prop := ∃ w x, w < nF N ∧ x < nL N w ∧ m 311 (nN N w x) = -9
theorem m311 {v : Nat} (h : stM sg N) (hv : v < 6) : (sg 311 v < 0) = (sg 311 v = -9) := by
  by_cases e : sg 311 v = -9
  · rw [e]; decide
  · obtain ⟨f, g1, g2, -⟩ := h.2.2.2.2 v hv e
    rw [g2]
    exact propext ⟨fun q => absurd q (nneg (by omega)), fun q => absurd q (nn9 (by omega))⟩
theorem servM_in {K : Int32 → Int32 → Hp → Option (Int32 × Hp)} {w : Nat} (h : stM sg N) (hw : w < nF N) : ∀ (j x F : Nat) (b : Bool), j + x = nL N w → j < F → L_X7_areServed_14 K F (fl b) (nI w) (nI x) sg = K (fl (b && !unW N (sg 311) w j x)) (nI w) sg := by
  have h' := h
  obtain ⟨h0, h1, h2, h3, h4⟩ := h
  have hF := h0.1
  obtain ⟨g1, g2, -⟩ := h3 w hw
  obtain ⟨l1, l2, l3, -⟩ := h0.2.2 w hw
  intro j
  induction j with
  | zero =>
    intro x F b e1 e2
    obtain ⟨F, rfl⟩ : ∃ q, F = q + 1 := ⟨F - 1, by omega⟩
    rw [L_X7_areServed_14, gd_t (inbN (by omega) (by omega)), nI_clamp (by omega), g1, if_pos (by rw [leN (by omega) (by omega)]; omega), unW, Bool.not_false, Bool.and_true]
  | succ j ih =>
    intro x F b e1 e2
    obtain ⟨F, rfl⟩ : ∃ q, F = q + 1 := ⟨F - 1, by omega⟩
    have n1 := l3 x (by omega)
    have ex2 : (4 : Int32) * nI w + nI x = nI (4 * w + x) := by rw [i4, pk_mul, nI_add]
    have dead : L_X7_areServed_14 K F 0 (nI w) (nI (x + 1)) sg = K (fl false) (nI w) sg := by
      have := ih (x + 1) F false (by omega) (by omega)
      rw [Bool.false_and] at this
      exact this
    rw [L_X7_areServed_14, gd_t (inbN (by omega) (by omega)), nI_clamp (by omega), g1, if_neg (by rw [leN (by omega) (by omega)]; omega), ex2, gd_t (inbN (by omega) (by omega)), nI_clamp (by omega), g2 x (by omega), gd_t (inbN n1 (by omega)), nI_clamp (by omega)]
    unfold B_X7_areServed_50 B_X7_areServed_51
    rw [nI_1, dead]
    cases b with
    | false =>
      rw [if_pos (show fl false = 0 by decide), Bool.false_and]
    | true =>
      rw [if_neg (show ¬ fl true = 0 by decide), unW]
      by_cases e : sg 311 (nN N w x) = -9
      · rw [if_pos (by rw [m311 h' n1]; exact e), if_pos e]
        rfl
      · rw [if_neg (by rw [m311 h' n1]; exact e), if_neg e]
        exact ih (x + 1) F true (by omega) (by omega)
theorem servM_out {K : Int32 → Hp → Option (Int32 × Hp)} (h : stM sg N) : ∀ (j w F : Nat) (b : Bool), j + w = nF N → j < F → L_X7_areServed_4 K F (fl b) (nI w) sg = K (fl (b && !unF N (sg 311) j w)) sg := by
  have h' := h
  obtain ⟨h0, h1, h2, h3, h4⟩ := h
  have hF := h0.1
  intro j
  induction j with
  | zero =>
    intro w F b e1 e2
    obtain ⟨F, rfl⟩ : ∃ q, F = q + 1 := ⟨F - 1, by omega⟩
    rw [L_X7_areServed_4, h1, if_pos (by rw [leN (by omega) (by omega)]; omega), unF, Bool.not_false, Bool.and_true]
  | succ j ih =>
    intro w F b e1 e2
    obtain ⟨F, rfl⟩ : ∃ q, F = q + 1 := ⟨F - 1, by omega⟩
    obtain ⟨l1, l2, l3, -⟩ := h0.2.2 w (by omega)
    rw [L_X7_areServed_4, h1, if_neg (by rw [leN (by omega) (by omega)]; omega), i0, servM_in h' (show w < nF N by omega) (nL N w) 0 200 b (by omega) (by omega), nI_1, ih (w + 1) F _ (by omega) (by omega), unF]
    cases b <;> cases unW N (sg 311) w (nL N w) 0 <;> rfl
theorem unsM_iff : unF N (m 311) (nF N) 0 = true ↔ unsM m N := by
  rw [unF_iff]
  constructor
  · rintro ⟨v, y, h1, h2, h3, h4⟩; exact ⟨v, y, by omega, h3, h4⟩
  · rintro ⟨v, y, h1, h2, h3⟩; exact ⟨v, y, by omega, by omega, h2, h3⟩
theorem servM_ok (h : stM sg N) : (unsM sg N → fX7_areServed sg = some (0, sg)) ∧ (¬ unsM sg N → fX7_areServed sg = some (1, sg)) := by
  have key : fX7_areServed sg = (gd (b01 (fl (true && !unF N (sg 311) (nF N) 0))) (some ((fl (true && !unF N (sg 311) (nF N) 0)), sg))) := by
    unfold fX7_areServed
    show L_X7_areServed_4 _ 200 (fl true) (nI 0) sg = _
    rw [servM_out h (nF N) 0 200 true (by omega) (by have := h.1.1; omega)]
  constructor
  · intro hu
    rw [key, unsM_iff.2 hu]
    rfl
  · intro hu
    have : unF N (sg 311) (nF N) 0 = false := Bool.eq_false_iff.mpr (fun q => hu (unsM_iff.1 q))
    rw [key, this]
    rfl
/-! places and sums -/
theorem placeM_in {K : Hp → Option (Int32 × Hp)} {K2 : Int32 → Hp → Option (Int32 × Hp)} {w v : Nat} (h : stM sg N) (hw : w < nF N) (hv : v < 6) : ∀ (j x F : Nat), j + x = nL N w → j < F → L_X7_placeOf_2 K K2 F (nI w) (nI v) (nI x) sg = match fndx (fun x => nN N w x == v) j x with
    | some y => K2 (nI y) sg
    | none => K sg := by
  obtain ⟨h0, h1, h2, h3, h4⟩ := h
  have hF := h0.1
  obtain ⟨g1, g2, g3⟩ := h3 w hw
  obtain ⟨l1, l2, l3, -⟩ := h0.2.2 w hw
  intro j
  induction j with
  | zero =>
    intro x F e1 e2
    obtain ⟨F, rfl⟩ : ∃ q, F = q + 1 := ⟨F - 1, by omega⟩
    rw [L_X7_placeOf_2, gd_t (inbN (by omega) (by omega)), nI_clamp (by omega), g1, if_pos (by rw [leN (by omega) (by omega)]; omega)]
    rfl
  | succ j ih =>
    intro x F e1 e2
    obtain ⟨F, rfl⟩ : ∃ q, F = q + 1 := ⟨F - 1, by omega⟩
    have n1 := l3 x (by omega)
    rw [L_X7_placeOf_2, gd_t (inbN (by omega) (by omega)), nI_clamp (by omega), g1, if_neg (by rw [leN (by omega) (by omega)]; omega), i4, pk_mul, nI_add, gd_t (inbN (by omega) (by omega)), nI_clamp (by omega), g2 x (by omega), fndx]
    by_cases e : nN N w x = v
    · rw [if_pos (by rw [e]), if_pos (by simpa using e)]
    · rw [if_neg (by rw [eqN (by omega) (by omega)]; exact e), if_neg (by simpa using e), nI_1]
      exact ih (x + 1) F (by omega) (by omega)
theorem placeM_s {w v x : Nat} (h : stM sg N) (hw : w < nF N) (hv : v < 6) (hp : plc N w v = some x) : fX7_placeOf (nI w) (nI v) sg = some (nI x, sg) := by
  unfold fX7_placeOf
  obtain ⟨l1, l2, l3, -⟩ := h.1.2.2 w hw
  rw [i0, placeM_in h hw hv (nL N w) 0 200 (by omega) (by omega)]
  unfold plc at hp
  rw [hp]
theorem placeM_n {w v : Nat} (h : stM sg N) (hw : w < nF N) (hv : v < 6) (hp : plc N w v = none) : fX7_placeOf (nI w) (nI v) sg = some (-9, sg) := by
  unfold fX7_placeOf
  obtain ⟨l1, l2, l3, -⟩ := h.1.2.2 w hw
  rw [i0, placeM_in h hw hv (nL N w) 0 200 (by omega) (by omega)]
  unfold plc at hp
  rw [hp]
def coM (m : Hp) : Nat → Nat → Nat → Int32 := fun w x => mr m (24 + (4 * w + x))
def haM (m : Hp) : Nat → Nat → Nat → Int32 := fun w x => mr m (44 + (4 * w + x))
def goM (m : Hp) : Nat → Nat → Nat → Int32 := fun w x => mr m (64 + (4 * w + x))
theorem filM_filM {f : Nat} {F G : Nat → Int32} : filM (filM sg f F 41) f G 41 = filM sg f G 41 := by
  funext b j
  unfold filM
  by_cases e : b = 303 ∧ 41 * f ≤ j ∧ j < 41 * f + 41
  · rw [if_pos e, if_pos e]
  · rw [if_neg e, if_neg e, if_neg e]
theorem sumM_in {K : Hp → Option (Unit × Hp)} {v hi : Nat} {b : Int32} {o : Option Nat} (h : stM sg N) (hv : v < 6) (hhi : hi ≤ nF N) (hb : butR b o) : ∀ (j w F : Nat), j + w = hi → j < F → L_X7_laySum_9 K F (nI v) (nI hi) b (nI 84) (nI w) (filM sg 84 (smC N (coM sg) v o w) 41) = K (filM sg 84 (smC N (coM sg) v o hi) 41) := by
  have hF := h.1.1
  intro j
  induction j with
  | zero =>
    intro w F e1 e2
    obtain ⟨F, rfl⟩ : ∃ q, F = q + 1 := ⟨F - 1, by omega⟩
    have : w = hi := by omega
    subst this
    rw [L_X7_laySum_9, if_pos (by rw [leN (by omega) (by omega)]; omega)]
  | succ j ih =>
    intro w F e1 e2
    obtain ⟨F, rfl⟩ : ∃ q, F = q + 1 := ⟨F - 1, by omega⟩
    have hs : stM (filM sg 84 (smC N (coM sg) v o w) 41) N := stM_kp h (eqV.filM (by omega) (by omega))
    rw [L_X7_laySum_9, if_neg (by rw [leN (by omega) (by omega)]; omega)]
    unfold B_X7_laySum_54
    rw [← ih (w + 1) F (by omega) (by omega), nI_1]
    cases hp : plc N w v with
    | none =>
      rw [placeM_n hs (by omega) hv hp, bnd_s, if_pos (by decide)]
      have e9 : smC N (coM sg) v o (w + 1) = smC N (coM sg) v o w := by
        show (match plc N w v with
          | some x => if o = some w then smC N (coM sg) v o w else sSum (smC N (coM sg) v o w) (coM sg w x)
          | none => smC N (coM sg) v o w) = _
        rw [hp]
      rw [e9]
    | some x =>
      obtain ⟨x1, x2, -⟩ := plc_some hp
      obtain ⟨l1, l2, l3, -⟩ := h.1.2.2 w (by omega)
      have e9 : smC N (coM sg) v o (w + 1) = if o = some w then smC N (coM sg) v o w else sSum (smC N (coM sg) v o w) (coM sg w x) := by
        show (match plc N w v with
          | some x => if o = some w then smC N (coM sg) v o w else sSum (smC N (coM sg) v o w) (coM sg w x)
          | none => smC N (coM sg) v o w) = _
        rw [hp]
      have ex : (24 : Int32) + 4 * nI w + nI x = nI (24 + (4 * w + x)) := by
        rw [i4, show (24 : Int32) = nI 24 from rfl, pk_mul, nI_add, nI_add, Nat.add_assoc]
      rw [placeM_s hs (by omega) hv hp, bnd_s, if_neg (nneg (by omega))]
      by_cases hbw : o = some w
      · rw [if_pos ((hb w (by omega)).2 hbw), e9, if_pos hbw]
      · rw [if_neg (fun q => hbw ((hb w (by omega)).1 q)), e9, if_neg hbw, ex, laySum_ok (by omega) (by omega) (by omega), bnd_s, filM_filM]
        have e8 : filM sg 84 (sSum (mr (filM sg 84 (smC N (coM sg) v o w) 41) 84) (mr (filM sg 84 (smC N (coM sg) v o w) 41) (24 + (4 * w + x)))) 41 = filM sg 84 (sSum (smC N (coM sg) v o w) (coM sg w x)) 41 := filM_cong (fun t ht => by
          unfold sSum
          rw [filM_in ht (by omega) ht, filM_out ht (by omega) (by omega)]
          rfl)
        rw [e8]
theorem sumM {v hi : Nat} {b : Int32} {o : Option Nat} (h : stM sg N) (hv : v < 6) (hhi : hi ≤ nF N) (hb : butR b o) : fX7_laySum (nI v) (nI hi) b 84 sg = some ((), filM sg 84 (smC N (coM sg) v o hi) 41) := by
  unfold fX7_laySum
  rw [show (84 : Int32) = nI 84 from rfl, layZero_ok (by omega), bnd_s]
  exact sumM_in h hv hhi hb hi 0 200 (by omega) (by have := h.1.1; omega)
end C4
