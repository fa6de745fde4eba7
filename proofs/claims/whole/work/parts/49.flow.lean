/-! a new flow -/
def dupI (f : Nat → Int32) (t : Nat) : Nat → Nat → Bool
  | 0, _ => false
  | j + 1, s => if f s = f t then true else dupI f t j (s + 1)
def dupO (f : Nat → Int32) : Nat → Nat → Bool
  | 0, _ => false
  | j + 1, t => if dupI f t t 0 = true then true else dupO f j (t + 1)
def nod (f : Nat → Int32) (n : Nat) : Prop := ∀ t, t < n → 0 ≤ (f t).toInt ∧ (f t).toInt ≤ 5
section B1
variable {sg c m : Hp} {x y z u v : Int32}
theorem dupI_cong {f g : Nat → Int32} {t n : Nat} (ht : t < n) (h : ∀ i, i < n → f i = g i) : ∀ {j s}, j + s = t → dupI f t j s = dupI g t j s
  | 0, _, _ => rfl
  | j + 1, s, hs => by
    unfold dupI
    rw [h s (by omega), h t ht, dupI_cong ht h (j := j) (s := s + 1) (by omega)]
theorem dupO_cong {f g : Nat → Int32} {n : Nat} (h : ∀ i, i < n → f i = g i) : ∀ {j t}, j + t = n → dupO f j t = dupO g j t
  | 0, _, _ => rfl
  | j + 1, t, hs => by
    unfold dupO
    rw [dupI_cong (t := t) (by omega) h (Nat.add_zero t), dupO_cong h (j := j) (t := t + 1) (by omega)]
theorem dupI_no {f : Nat → Int32} {t : Nat} : ∀ {j s}, dupI f t j s = false → ∀ i, s ≤ i → i < s + j → f i ≠ f t
  | 0, s, _, i, h1, h2 => by omega
  | j + 1, s, h, i, h1, h2 => by
    unfold dupI at h
    by_cases e : f s = f t
    · rw [if_pos e] at h; cases h
    · rw [if_neg e] at h
      by_cases e2 : i = s
      · rw [e2]; exact e
      · exact dupI_no h i (by omega) (by omega)
theorem dupO_no {f : Nat → Int32} : ∀ {j t}, dupO f j t = false → ∀ s b, s < b → t ≤ b → b < t + j → f s ≠ f b
  | 0, t, _, s, b, h1, h2, h3 => by omega
  | j + 1, t, h, s, b, h1, h2, h3 => by
    unfold dupO at h
    cases e : dupI f t t 0 with
    | true => rw [e, if_pos rfl] at h; cases h
    | false =>
      rw [e, if_neg (by decide)] at h
      by_cases e2 : b = t
      · rw [e2]
        exact dupI_no e s (Nat.zero_le s) (by omega)
      · exact dupO_no h s b h1 (by omega) (by omega)
theorem c5 : (5 : Int32).toInt = 5 := by decide
theorem wayC_15y {K : Int32 → Hp → Option (Int32 × Hp)} {K2 : Hp → Option (Int32 × Hp)} {n : Nat} (hn : n ≤ 4) (h : nod (sg 6) n) : L_X6_whyNoWay_15 K K2 200 (nI n) 0 sg = K (nI n) sg :=
  nloop (N := n) (M := 0) (fun f t => L_X6_whyNoWay_15 K K2 f (nI n) (nI t) sg) (K (nI n) sg)
    (fun f t h1 ht => by
      show L_X6_whyNoWay_15 K K2 (f + 1) (nI n) (nI t) sg = _
      rw [L_X6_whyNoWay_15, if_neg (by rw [leN (by omega) (by omega)]; omega), gd_t (inbN (by omega) (by omega)), nI_clamp (by omega), up_y (by rw [c5]; exact h t ht), bnd_s, if_neg ne10, nI_1])
    (fun f => by
      show L_X6_whyNoWay_15 K K2 (f + 1) (nI n) (nI n) sg = _
      rw [L_X6_whyNoWay_15, if_pos (by rw [leN (by omega) (by omega)]; omega)])
    200 0 (by omega) (by omega) (by omega)
theorem wayC_15n {K : Int32 → Hp → Option (Int32 × Hp)} {K2 : Hp → Option (Int32 × Hp)} {n : Nat} (hn : n ≤ 4) (h : ¬ nod (sg 6) n) : L_X6_whyNoWay_15 K K2 200 (nI n) 0 sg = K2 sg := by
  obtain ⟨q, hq, h1, h2⟩ := first_bad h
  exact nloop (N := q) (M := 0) (fun f t => L_X6_whyNoWay_15 K K2 f (nI n) (nI t) sg) (K2 sg)
    (fun f t h9 ht => by
      show L_X6_whyNoWay_15 K K2 (f + 1) (nI n) (nI t) sg = _
      rw [L_X6_whyNoWay_15, if_neg (by rw [leN (by omega) (by omega)]; omega), gd_t (inbN (by omega) (by omega)), nI_clamp (by omega), up_y (by rw [c5]; exact h2 t ht), bnd_s, if_neg ne10, nI_1])
    (fun f => by
      show L_X6_whyNoWay_15 K K2 (f + 1) (nI n) (nI q) sg = _
      rw [L_X6_whyNoWay_15, if_neg (by rw [leN (by omega) (by omega)]; omega), gd_t (inbN (by omega) (by omega)), nI_clamp (by omega), up_n (by rw [c5]; exact h1), bnd_s, if_pos rfl])
    200 0 (by omega) (by omega) (by omega)
theorem wayC_50 {K : Int32 → Int32 → Hp → Option (Int32 × Hp)} {K2 : Hp → Option (Int32 × Hp)} {n t : Nat} (hn : n ≤ 4) (ht : t < n) : ∀ (j s F : Nat), j + s = t → j < F → L_X6_whyNoWay_50 K K2 F (nI n) (nI t) (nI s) sg = if dupI (sg 6) t j s = true then K2 sg else K (nI n) (nI t) sg := by
  intro j
  induction j with
  | zero =>
    intro s F h1 h2
    obtain ⟨F, rfl⟩ : ∃ w, F = w + 1 := ⟨F - 1, by omega⟩
    rw [L_X6_whyNoWay_50, if_pos (by rw [leN (by omega) (by omega)]; omega), dupI, if_neg (by decide)]
  | succ j ih =>
    intro s F h1 h2
    obtain ⟨F, rfl⟩ : ∃ w, F = w + 1 := ⟨F - 1, by omega⟩
    rw [L_X6_whyNoWay_50, if_neg (by rw [leN (by omega) (by omega)]; omega), gd_t (inbN (by omega) (by omega)), gd_t (inbN (by omega) (by omega)), nI_clamp (by omega), nI_clamp (by omega), dupI]
    by_cases e : sg 6 s = sg 6 t
    · rw [if_pos e, if_pos e, if_pos rfl]
    · rw [if_neg e, if_neg e, nI_1]
      exact ih (s + 1) F (by omega) (by omega)
theorem wayC_43 {K : Hp → Option (Int32 × Hp)} {K2 : Hp → Option (Int32 × Hp)} {n : Nat} (hn : n ≤ 4) : ∀ (j t F : Nat), j + t = n → j < F → L_X6_whyNoWay_43 K K2 F (nI n) (nI t) sg = if dupO (sg 6) j t = true then K2 sg else K sg := by
  intro j
  induction j with
  | zero =>
    intro t F h1 h2
    obtain ⟨F, rfl⟩ : ∃ w, F = w + 1 := ⟨F - 1, by omega⟩
    rw [L_X6_whyNoWay_43, if_pos (by rw [leN (by omega) (by omega)]; omega), dupO, if_neg (by decide)]
  | succ j ih =>
    intro t F h1 h2
    obtain ⟨F, rfl⟩ : ∃ w, F = w + 1 := ⟨F - 1, by omega⟩
    rw [L_X6_whyNoWay_43, if_neg (by rw [leN (by omega) (by omega)]; omega), i0, wayC_50 hn (by omega) t 0 200 (by omega) (by omega), dupO]
    by_cases e : dupI (sg 6) t t 0 = true
    · rw [if_pos e, if_pos e, if_pos rfl]
    · rw [if_neg e, if_neg e, nI_1]
      exact ih (t + 1) F (by omega) (by omega)
noncomputable def wayF (f : Nat → Int32) (n : Nat) : Int32 := by
  classical
  exact if 1 ≤ n ∧ n ≤ 4 then (if nod f n then (if dupO f n 0 = true then -3 else 0) else -1) else -2
theorem dupO_0 {f : Nat → Int32} {n : Nat} : dupO f (n + 1) 0 = dupO f n 1 := by
  show (if dupI f 0 0 0 = true then true else dupO f n 1) = _
  rw [dupI, if_neg (by decide)]
theorem wayC {n : Nat} (hn : n ≤ 60) : fX6_whyNoWay (nI n) sg = some (wayF (sg 6) n, sg) := by
  unfold fX6_whyNoWay B_X6_whyNoWay_10 wayF
  by_cases h1 : 1 ≤ n
  · rw [if_neg (by rw [i1, ltN (by omega) (by omega)]; omega)]
    by_cases h2 : n ≤ 4
    · rw [if_pos (by rw [i4, leN (by omega) (by omega)]; omega), if_pos ⟨h1, h2⟩]
      by_cases h3 : nod (sg 6) n
      · obtain ⟨n, rfl⟩ : ∃ w, n = w + 1 := ⟨n - 1, by omega⟩
        rw [wayC_15y h2 h3, if_pos h3, i1, wayC_43 h2 n 1 200 (by omega) (by omega), dupO_0]
        by_cases e : dupO (sg 6) n 1 = true
        · rw [if_pos e, if_pos e]
        · rw [if_neg e, if_neg e]
      · rw [wayC_15n h2 h3, if_neg h3]
    · rw [if_neg (by rw [i4, leN (by omega) (by omega)]; omega), if_neg (fun q => h2 q.2)]
  · rw [if_pos (by rw [i1, ltN (by omega) (by omega)]; omega), if_neg (fun q => h1 q.1)]
theorem nodM {f : Nat → Int32} {t : Nat} (h : 0 ≤ (f t).toInt ∧ (f t).toInt ≤ 5) : fX7_noNode (f t) sg = some (0, sg) := noNode_y (by omega)
theorem wayM_17y {K : Int32 → Int32 → Hp → Option (Int32 × Hp)} {K2 : Hp → Option (Int32 × Hp)} {b n : Nat} (hb : b + n ≤ 240) (hn : n ≤ 4) (h : nod (fun t => sg 322 (b + t)) n) : L_X7_wayFault_17 K K2 200 (nI b) (nI n) 0 sg = K (nI b) (nI n) sg :=
  nloop (N := n) (M := 0) (fun f t => L_X7_wayFault_17 K K2 f (nI b) (nI n) (nI t) sg) (K (nI b) (nI n) sg)
    (fun f t h1 ht => by
      show L_X7_wayFault_17 K K2 (f + 1) (nI b) (nI n) (nI t) sg = _
      have h9 : 0 ≤ (sg 322 (b + t)).toInt ∧ (sg 322 (b + t)).toInt ≤ 5 := h t ht
      rw [L_X7_wayFault_17, if_neg (by rw [leN (by omega) (by omega)]; omega), nI_add, gd_t (inbN (by omega) (by omega)), nI_clamp (by omega), noNode_y (by omega), bnd_s, if_pos rfl, nI_1])
    (fun f => by
      show L_X7_wayFault_17 K K2 (f + 1) (nI b) (nI n) (nI n) sg = _
      rw [L_X7_wayFault_17, if_pos (by rw [leN (by omega) (by omega)]; omega)])
    200 0 (by omega) (by omega) (by omega)
theorem wayM_17n {K : Int32 → Int32 → Hp → Option (Int32 × Hp)} {K2 : Hp → Option (Int32 × Hp)} {b n : Nat} (hb : b + n ≤ 240) (hn : n ≤ 4) (h : ¬ nod (fun t => sg 322 (b + t)) n) : L_X7_wayFault_17 K K2 200 (nI b) (nI n) 0 sg = K2 sg := by
  obtain ⟨q, hq, h1, h2⟩ := first_bad h
  exact nloop (N := q) (M := 0) (fun f t => L_X7_wayFault_17 K K2 f (nI b) (nI n) (nI t) sg) (K2 sg)
    (fun f t h9 ht => by
      show L_X7_wayFault_17 K K2 (f + 1) (nI b) (nI n) (nI t) sg = _
      have h9 : 0 ≤ (sg 322 (b + t)).toInt ∧ (sg 322 (b + t)).toInt ≤ 5 := h2 t ht
      rw [L_X7_wayFault_17, if_neg (by rw [leN (by omega) (by omega)]; omega), nI_add, gd_t (inbN (by omega) (by omega)), nI_clamp (by omega), noNode_y (by omega), bnd_s, if_pos rfl, nI_1])
    (fun f => by
      show L_X7_wayFault_17 K K2 (f + 1) (nI b) (nI n) (nI q) sg = _
      have h9 : ¬ (0 ≤ (sg 322 (b + q)).toInt ∧ (sg 322 (b + q)).toInt ≤ 5) := h1
      rw [L_X7_wayFault_17, if_neg (by rw [leN (by omega) (by omega)]; omega), nI_add, gd_t (inbN (by omega) (by omega)), nI_clamp (by omega), noNode_n (by omega), bnd_s, if_neg ne10])
    200 0 (by omega) (by omega) (by omega)
theorem wayM_54 {K : Int32 → Int32 → Int32 → Hp → Option (Int32 × Hp)} {K2 : Hp → Option (Int32 × Hp)} {b n t : Nat} (hb : b + n ≤ 240) (hn : n ≤ 4) (ht : t < n) : ∀ (j s F : Nat), j + s = t → j < F → L_X7_wayFault_54 K K2 F (nI b) (nI n) (nI t) (nI s) sg = if dupI (fun t => sg 322 (b + t)) t j s = true then K2 sg else K (nI b) (nI n) (nI t) sg := by
  intro j
  induction j with
  | zero =>
    intro s F h1 h2
    obtain ⟨F, rfl⟩ : ∃ w, F = w + 1 := ⟨F - 1, by omega⟩
    rw [L_X7_wayFault_54, if_pos (by rw [leN (by omega) (by omega)]; omega), dupI, if_neg (by decide)]
  | succ j ih =>
    intro s F h1 h2
    obtain ⟨F, rfl⟩ : ∃ w, F = w + 1 := ⟨F - 1, by omega⟩
    rw [L_X7_wayFault_54, if_neg (by rw [leN (by omega) (by omega)]; omega), nI_add, nI_add, gd_t (inbN (by omega) (by omega)), gd_t (inbN (by omega) (by omega)), nI_clamp (by omega), nI_clamp (by omega), dupI]
    by_cases e : sg 322 (b + s) = sg 322 (b + t)
    · rw [if_pos e.symm, if_pos e, if_pos rfl]
    · rw [if_neg (fun q => e q.symm), if_neg e, nI_1]
      exact ih (s + 1) F (by omega) (by omega)
theorem wayM_46 {K : Hp → Option (Int32 × Hp)} {K2 : Hp → Option (Int32 × Hp)} {b n : Nat} (hb : b + n ≤ 240) (hn : n ≤ 4) : ∀ (j t F : Nat), j + t = n → j < F → L_X7_wayFault_46 K K2 F (nI b) (nI n) (nI t) sg = if dupO (fun t => sg 322 (b + t)) j t = true then K2 sg else K sg := by
  intro j
  induction j with
  | zero =>
    intro t F h1 h2
    obtain ⟨F, rfl⟩ : ∃ w, F = w + 1 := ⟨F - 1, by omega⟩
    rw [L_X7_wayFault_46, if_pos (by rw [leN (by omega) (by omega)]; omega), dupO, if_neg (by decide)]
  | succ j ih =>
    intro t F h1 h2
    obtain ⟨F, rfl⟩ : ∃ w, F = w + 1 := ⟨F - 1, by omega⟩
    rw [L_X7_wayFault_46, if_neg (by rw [leN (by omega) (by omega)]; omega), i0, wayM_54 hb hn (by omega) t 0 200 (by omega) (by omega), dupO]
    by_cases e : dupI (fun t => sg 322 (b + t)) t t 0 = true
    · rw [if_pos e, if_pos e, if_pos rfl]
    · rw [if_neg e, if_neg e, nI_1]
      exact ih (t + 1) F (by omega) (by omega)
theorem wayM {b n : Nat} (hb : b + n ≤ 240) (hn : n ≤ 60) : fX7_wayFault (nI b) (nI n) sg = some (wayF (fun t => sg 322 (b + t)) n, sg) := by
  unfold fX7_wayFault wayF
  have ei : (1 : Int64).toInt = 1 := by decide
  have e4 : (4 : Int64).toInt = 4 := by decide
  by_cases h1 : 1 ≤ n ∧ n ≤ 4
  · rw [in_y (by rw [nI_toInt (by omega), ei, e4]; omega), bnd_s, if_neg ne10, if_pos h1]
    by_cases h3 : nod (fun t => sg 322 (b + t)) n
    · rw [wayM_17y hb h1.2 h3, if_pos h3, i0, wayM_46 hb h1.2 n 0 200 (by omega) (by omega)]
      by_cases e : dupO (fun t => sg 322 (b + t)) n 0 = true
      · rw [if_pos e, if_pos e]
      · rw [if_neg e, if_neg e]
    · rw [wayM_17n hb h1.2 h3, if_neg h3]
  · rw [in_n (by rw [nI_toInt (by omega), ei, e4]; omega), bnd_s, if_pos rfl, if_neg h1]
theorem wayF_cong {f g : Nat → Int32} {n : Nat} (h : ∀ t, t < n → f t = g t) : wayF f n = wayF g n := by
  have e : nod f n ↔ nod g n := ⟨fun q t ht => by rw [← h t ht]; exact q t ht, fun q t ht => by rw [h t ht]; exact q t ht⟩
  unfold wayF
  rw [dupO_cong h (Nat.add_zero n)]
  by_cases h1 : 1 ≤ n ∧ n ≤ 4
  · rw [if_pos h1, if_pos h1]
    by_cases h2 : nod f n
    · rw [if_pos h2, if_pos (e.1 h2)]
    · rw [if_neg h2, if_neg (fun q => h2 (e.2 q))]
  · rw [if_neg h1, if_neg h1]
theorem wayF_cases (f : Nat → Int32) (n : Nat) : (wayF f n = 0 ∧ 1 ≤ n ∧ n ≤ 4 ∧ nod f n ∧ ∀ s t, s < t → t < n → f s ≠ f t) ∨ ((wayF f n).toInt < 0 ∧ flt (wayF f n) = 0) := by
  unfold wayF
  by_cases h1 : 1 ≤ n ∧ n ≤ 4
  · rw [if_pos h1]
    by_cases h2 : nod f n
    · rw [if_pos h2]
      by_cases h3 : dupO f n 0 = true
      · rw [if_pos h3]; exact Or.inr (by decide)
      · rw [if_neg h3]
        exact Or.inl ⟨rfl, h1.1, h1.2, h2, fun s t hs ht => dupO_no (Bool.eq_false_iff.mpr h3) s t hs (by omega) (by omega)⟩
    · rw [if_neg h2]; exact Or.inr (by decide)
  · rw [if_neg h1]; exact Or.inr (by decide)
end B1
