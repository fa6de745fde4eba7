/-! which node comes before which: by itself -/
def edW (N : NT) (w : Nat) : Nat → Nat → List (Nat × Nat)
  | 0, _ => []
  | j + 1, x => (nN N w (x - 1), nN N w x) :: edW N w j (x + 1)
def edF (N : NT) : Nat → Nat → List (Nat × Nat)
  | 0, _ => []
  | j + 1, w => edW N w (nL N w - 1) 1 ++ edF N j (w + 1)
def edg (N : NT) : List (Nat × Nat) := edF N (nF N) 0
theorem mem_edW {N : NT} {w : Nat} {e : Nat × Nat} : ∀ {j x}, e ∈ edW N w j x ↔ ∃ y, x ≤ y ∧ y < x + j ∧ e = (nN N w (y - 1), nN N w y)
  | 0, x => by
    unfold edW
    constructor
    · intro h; cases h
    · rintro ⟨y, h1, h2, -⟩; omega
  | j + 1, x => by
    unfold edW
    rw [List.mem_cons, mem_edW (j := j) (x := x + 1)]
    constructor
    · rintro (h | ⟨y, h1, h2, h3⟩)
      · exact ⟨x, Nat.le_refl _, by omega, h⟩
      · exact ⟨y, by omega, by omega, h3⟩
    · rintro ⟨y, h1, h2, h3⟩
      by_cases e : y = x
      · subst e; exact Or.inl h3
      · exact Or.inr ⟨y, by omega, by omega, h3⟩
theorem mem_edF {N : NT} {e : Nat × Nat} : ∀ {j w}, e ∈ edF N j w ↔ ∃ v x, w ≤ v ∧ v < w + j ∧ x + 1 < nL N v ∧ e = (nN N v x, nN N v (x + 1))
  | 0, w => by
    unfold edF
    constructor
    · intro h; cases h
    · rintro ⟨v, x, h1, h2, -⟩; omega
  | j + 1, w => by
    unfold edF
    rw [List.mem_append, mem_edW, mem_edF (j := j) (w := w + 1)]
    constructor
    · rintro (⟨y, h1, h2, h3⟩ | ⟨v, x, h1, h2, h3, h4⟩)
      · exact ⟨w, y - 1, Nat.le_refl _, by omega, by omega, by rw [h3, show y - 1 + 1 = y by omega]⟩
      · exact ⟨v, x, by omega, by omega, h3, h4⟩
    · rintro ⟨v, x, h1, h2, h3, h4⟩
      by_cases e : v = w
      · subst e
        exact Or.inl ⟨x + 1, by omega, by omega, by rw [h4, show x + 1 - 1 = x by omega]⟩
      · exact Or.inr ⟨v, x, by omega, by omega, h3, h4⟩
theorem mem_edg {N : NT} {e : Nat × Nat} : e ∈ edg N ↔ ∃ w x, w < nF N ∧ x + 1 < nL N w ∧ e = (nN N w x, nN N w (x + 1)) := by
  unfold edg
  rw [mem_edF]
  constructor
  · rintro ⟨v, x, h1, h2, h3, h4⟩; exact ⟨v, x, by omega, h3, h4⟩
  · rintro ⟨v, x, h1, h2, h3⟩; exact ⟨v, x, by omega, by omega, h2, h3⟩
def rkE (E : List (Nat × Nat)) (ρ : Nat → Nat) : Prop := ∀ e, e ∈ E → ρ e.1 < ρ e.2
theorem rnk_rkE {N : NT} {ρ : Nat → Nat} : rnk N ρ ↔ rkE (edg N) ρ := by
  constructor
  · intro h e he
    obtain ⟨w, x, h1, h2, rfl⟩ := mem_edg.1 he
    exact h w x h1 h2
  · intro h w x h1 h2
    exact h (nN N w x, nN N w (x + 1)) (mem_edg.2 ⟨w, x, h1, h2, rfl⟩)
/-! rounds -/
def rlx (s : Bool × (Nat → Nat)) (e : Nat × Nat) : Bool × (Nat → Nat) := (s.1 || !decide (s.2 e.1 < s.2 e.2), fun y => if y = e.2 then max (s.2 e.2) (s.2 e.1 + 1) else s.2 y)
def rds (E : List (Nat × Nat)) : Nat → (Nat → Nat) → Bool × (Nat → Nat)
  | 0, r => (false, r)
  | j + 1, r => if (E.foldl rlx (false, r)).1 = false then (true, (E.foldl rlx (false, r)).2) else rds E j (E.foldl rlx (false, r)).2
theorem rlx_sat {s : Bool × (Nat → Nat)} {e : Nat × Nat} (h : s.2 e.1 < s.2 e.2) : rlx s e = s := by
  unfold rlx
  have h1 : decide (s.2 e.1 < s.2 e.2) = true := decide_eq_true h
  rw [h1]
  have h2 : (fun y => if y = e.2 then max (s.2 e.2) (s.2 e.1 + 1) else s.2 y) = s.2 := funext fun y => by
    by_cases hy : y = e.2
    · rw [if_pos hy, hy]; omega
    · rw [if_neg hy]
  rw [h2]
  simp
theorem fold_t : ∀ {E : List (Nat × Nat)} {s : Bool × (Nat → Nat)}, s.1 = true → (E.foldl rlx s).1 = true
  | [], s, h => h
  | e :: E, s, h => fold_t (E := E) (s := rlx s e) (by
    show (s.1 || _) = true
    rw [h]; rfl)
theorem fold_f : ∀ {E : List (Nat × Nat)} {s : Bool × (Nat → Nat)}, (E.foldl rlx s).1 = false → (E.foldl rlx s) = s ∧ rkE E s.2
  | [], s, h => ⟨rfl, fun e he => by cases he⟩
  | e :: E, s, h => by
    have h1 : (rlx s e).1 = false := by
      cases q : (rlx s e).1 with
      | false => rfl
      | true => exact absurd (fold_t (E := E) q) (by rw [show E.foldl rlx (rlx s e) = (e :: E).foldl rlx s from rfl, h]; decide)
    have h2 : s.2 e.1 < s.2 e.2 := by
      have h3 : (s.1 || !decide (s.2 e.1 < s.2 e.2)) = false := h1
      cases q : decide (s.2 e.1 < s.2 e.2) with
      | true => exact of_decide_eq_true q
      | false => rw [q] at h3; simp at h3
    have e1 := rlx_sat h2
    have ih := fold_f (E := E) (s := s) (by
      have : (E.foldl rlx (rlx s e)).1 = false := h
      rw [e1] at this
      exact this)
    refine ⟨?_, fun e' he => ?_⟩
    · show E.foldl rlx (rlx s e) = s
      rw [e1]; exact ih.1
    · rcases List.mem_cons.1 he with rfl | he
      · exact h2
      · exact ih.2 e' he
theorem fold_all : ∀ {E : List (Nat × Nat)} {s : Bool × (Nat → Nat)}, rkE E s.2 → E.foldl rlx s = s
  | [], s, _ => rfl
  | e :: E, s, h => by
    show E.foldl rlx (rlx s e) = s
    rw [rlx_sat (h e (List.mem_cons_self ..))]
    exact fold_all (fun e' he => h e' (List.mem_cons_of_mem _ he))
theorem fold_le {ρ : Nat → Nat} : ∀ {E : List (Nat × Nat)} {s : Bool × (Nat → Nat)}, rkE E ρ → (∀ v, s.2 v ≤ ρ v) → ∀ v, (E.foldl rlx s).2 v ≤ ρ v
  | [], s, _, h => h
  | e :: E, s, hr, h => fold_le (E := E) (s := rlx s e) (fun e' he => hr e' (List.mem_cons_of_mem _ he)) (fun v => by
    show (if v = e.2 then max (s.2 e.2) (s.2 e.1 + 1) else s.2 v) ≤ ρ v
    by_cases hv : v = e.2
    · rw [if_pos hv, hv]
      have := hr e (List.mem_cons_self ..)
      have := h e.1
      have := h e.2
      omega
    · rw [if_neg hv]; exact h v)
def satK (E : List (Nat × Nat)) (ρ : Nat → Nat) (k : Nat) (r : Nat → Nat) : Prop := ∀ e, e ∈ E → ρ e.2 ≤ k → r e.1 < r e.2
theorem sat_keep {E : List (Nat × Nat)} {ρ : Nat → Nat} {k : Nat} {s : Bool × (Nat → Nat)} {e e0 : Nat × Nat} (hr : rkE E ρ) (hS : satK E ρ k s.2) (he : e ∈ E) (he0 : e0 ∈ E) (hk : ρ e.2 ≤ k + 1) (h : s.2 e.1 < s.2 e.2) : (rlx s e0).2 e.1 < (rlx s e0).2 e.2 := by
  show (if e.1 = e0.2 then max (s.2 e0.2) (s.2 e0.1 + 1) else s.2 e.1) < (if e.2 = e0.2 then max (s.2 e0.2) (s.2 e0.1 + 1) else s.2 e.2)
  have h1 := hr e he
  have e1 : (if e.1 = e0.2 then max (s.2 e0.2) (s.2 e0.1 + 1) else s.2 e.1) = s.2 e.1 := by
    by_cases q : e.1 = e0.2
    · have := hS e0 he0 (by rw [← q]; omega)
      rw [if_pos q, q]
      omega
    · rw [if_neg q]
  rw [e1]
  by_cases q : e.2 = e0.2
  · rw [if_pos q, ← q]; omega
  · rw [if_neg q]; exact h
theorem sat_fold {E : List (Nat × Nat)} {ρ : Nat → Nat} {k : Nat} (hr : rkE E ρ) : ∀ {l : List (Nat × Nat)} {s : Bool × (Nat → Nat)}, (∀ e, e ∈ l → e ∈ E) → satK E ρ k s.2 → satK E ρ k (l.foldl rlx s).2 ∧ (∀ e, e ∈ E → ρ e.2 ≤ k + 1 → s.2 e.1 < s.2 e.2 → (l.foldl rlx s).2 e.1 < (l.foldl rlx s).2 e.2) ∧ ∀ e, e ∈ l → ρ e.2 ≤ k + 1 → (l.foldl rlx s).2 e.1 < (l.foldl rlx s).2 e.2
  | [], s, _, hS => ⟨hS, fun _ _ _ h => h, fun e he => by cases he⟩
  | e0 :: l, s, hl, hS => by
    have m0 := hl e0 (List.mem_cons_self ..)
    have hS2 : satK E ρ k (rlx s e0).2 := fun e he hk => sat_keep hr hS he m0 (by omega) (hS e he hk)
    obtain ⟨i1, i2, i3⟩ := sat_fold (l := l) (s := rlx s e0) hr (fun e he => hl e (List.mem_cons_of_mem _ he)) hS2
    refine ⟨i1, fun e he hk h => i2 e he hk (sat_keep hr hS he m0 hk h), fun e he hk => ?_⟩
    rcases List.mem_cons.1 he with rfl | he
    · refine i2 e m0 hk ?_
      show (if e.1 = e.2 then max (s.2 e.2) (s.2 e.1 + 1) else s.2 e.1) < (if e.2 = e.2 then max (s.2 e.2) (s.2 e.1 + 1) else s.2 e.2)
      have := hr e m0
      rw [if_pos rfl, if_neg (fun q => by rw [q] at this; omega)]
      omega
    · exact i3 e he hk
theorem rds_yes {E : List (Nat × Nat)} {ρ : Nat → Nat} (hr : rkE E ρ) (h5 : ∀ e, e ∈ E → ρ e.2 ≤ 5) : ∀ {j k r}, 1 ≤ j → 5 < j + k → satK E ρ k r → (rds E j r).1 = true
  | 0, k, r, h, _, _ => by omega
  | j + 1, k, r, _, h2, hS => by
    unfold rds
    by_cases q : (E.foldl rlx (false, r)).1 = false
    · rw [if_pos q]
    · rw [if_neg q]
      have hk : k < 5 := by
        by_cases h : k < 5
        · exact h
        · exfalso
          apply q
          rw [fold_all (s := (false, r)) (fun e he => hS e he (by have := h5 e he; omega))]
      have := sat_fold (s := (false, r)) hr (fun e he => he) hS
      exact rds_yes hr h5 (j := j) (k := k + 1) (by omega) (by omega) (fun e he hk => this.2.2 e he hk)
theorem rds_rk {E : List (Nat × Nat)} : ∀ {j r}, (rds E j r).1 = true → rkE E (rds E j r).2
  | 0, r, h => by
    unfold rds at h
    cases h
  | j + 1, r, h => by
    unfold rds at h ⊢
    by_cases q : (E.foldl rlx (false, r)).1 = false
    · rw [if_pos q]
      have := fold_f q
      show rkE E (E.foldl rlx (false, r)).2
      rw [this.1]
      exact this.2
    · rw [if_neg q] at h ⊢
      exact rds_rk h
theorem rds_le {E : List (Nat × Nat)} {ρ : Nat → Nat} (hr : rkE E ρ) : ∀ {j r}, (∀ v, r v ≤ ρ v) → ∀ v, (rds E j r).2 v ≤ ρ v
  | 0, r, h => h
  | j + 1, r, h => by
    unfold rds
    have := fold_le (E := E) (s := (false, r)) hr h
    by_cases q : (E.foldl rlx (false, r)).1 = false
    · rw [if_pos q]; exact this
    · rw [if_neg q]; exact rds_le hr (j := j) this
/-! an order of the nodes -/
abbrev sub6 (a d : Nat) : Prop := ∀ u, u < 6 → a.testBit u = true → d.testBit u = true
def oStep (A : Nat → Nat) (s : Nat × Nat × (Nat → Nat)) (v : Nat) : Nat × Nat × (Nat → Nat) := if s.1.testBit v = false ∧ sub6 (A v) s.1 then (s.1 ||| 2 ^ v, s.2.1 + 1, fun i => if i = s.2.1 then v else s.2.2 i) else s
def oIn (A : Nat → Nat) : Nat → Nat → Nat × Nat × (Nat → Nat) → Nat × Nat × (Nat → Nat)
  | 0, _, s => s
  | j + 1, v, s => oIn A j (v + 1) (oStep A s v)
def oOut (A : Nat → Nat) : Nat → Nat × Nat × (Nat → Nat) → Nat × Nat × (Nat → Nat)
  | 0, s => s
  | j + 1, s => oOut A j (oIn A 6 0 s)
def OI (E : List (Nat × Nat)) (s : Nat × Nat × (Nat → Nat)) : Prop := s.2.1 ≤ 6 ∧ s.1 < 64 ∧ (∀ i, i < s.2.1 → s.2.2 i < 6 ∧ s.1.testBit (s.2.2 i) = true) ∧ (∀ i j, i < j → j < s.2.1 → s.2.2 i ≠ s.2.2 j) ∧ (∀ v, v < 6 → s.1.testBit v = true → ∃ i, i < s.2.1 ∧ s.2.2 i = v) ∧ ∀ i, i < s.2.1 → ∀ e, e ∈ E → e.2 = s.2.2 i → ∃ j, j < i ∧ s.2.2 j = e.1
theorem or_lt64 {d v : Nat} (hd : d < 64) (hv : v < 6) : d ||| 2 ^ v < 64 := Nat.or_lt_two_pow (n := 6) hd (Nat.pow_lt_pow_right (by omega) hv)
theorem OI_new {E : List (Nat × Nat)} {s : Nat × Nat × (Nat → Nat)} {v : Nat} (h : OI E s) (hv : v < 6) (hn : s.1.testBit v = false) : s.2.1 ≤ 5 := by
  obtain ⟨h1, h2, h3, h4, h5, h6⟩ := h
  have := fb_holes 6 (s.2.1 + 1) (fun i => if i = s.2.1 then v else s.2.2 i) (fun i hi => by
    show (if i = s.2.1 then v else s.2.2 i) < 6
    by_cases e : i = s.2.1
    · rw [if_pos e]; exact hv
    · rw [if_neg e]; exact (h3 i (by omega)).1) (fun i j hij hj => by
    show (if i = s.2.1 then v else s.2.2 i) ≠ (if j = s.2.1 then v else s.2.2 j)
    rw [if_neg (by omega)]
    by_cases e : j = s.2.1
    · rw [if_pos e]
      intro q
      have := (h3 i (by omega)).2
      rw [q, hn] at this
      cases this
    · rw [if_neg e]; exact h4 i j hij (by omega))
  omega
theorem OI_step {E : List (Nat × Nat)} {A : Nat → Nat} (hA : ∀ e, e ∈ E → e.1 < 6 ∧ e.2 < 6 ∧ (A e.2).testBit e.1 = true) {s : Nat × Nat × (Nat → Nat)} {v : Nat} (hv : v < 6) (h : OI E s) : OI E (oStep A s v) := by
  unfold oStep
  by_cases q : s.1.testBit v = false ∧ sub6 (A v) s.1
  · rw [if_pos q]
    have hc := OI_new h hv q.1
    obtain ⟨h1, h2, h3, h4, h5, h6⟩ := h
    refine ⟨by show s.2.1 + 1 ≤ 6; omega, or_lt64 h2 hv, fun i hi => ?_, fun i j hij hj => ?_, fun u hu hb => ?_, fun i hi e he h9 => ?_⟩
    · have hi : i < s.2.1 + 1 := hi
      show (if i = s.2.1 then v else s.2.2 i) < 6 ∧ (s.1 ||| 2 ^ v).testBit (if i = s.2.1 then v else s.2.2 i) = true
      rw [fb_bit_set]
      by_cases e : i = s.2.1
      · rw [if_pos e]; exact ⟨hv, by simp⟩
      · rw [if_neg e]
        have := h3 i (by omega)
        exact ⟨this.1, by rw [this.2]; rfl⟩
    · have hj : j < s.2.1 + 1 := hj
      show (if i = s.2.1 then v else s.2.2 i) ≠ (if j = s.2.1 then v else s.2.2 j)
      rw [if_neg (by omega)]
      by_cases e : j = s.2.1
      · rw [if_pos e]
        intro w
        have := (h3 i (by omega)).2
        rw [w, q.1] at this
        cases this
      · rw [if_neg e]; exact h4 i j hij (by omega)
    · have hb : (s.1 ||| 2 ^ v).testBit u = true := hb
      rw [fb_bit_set] at hb
      by_cases e : u = v
      · refine ⟨s.2.1, by show s.2.1 < s.2.1 + 1; omega, ?_⟩
        show (if s.2.1 = s.2.1 then v else s.2.2 s.2.1) = u
        rw [if_pos rfl, e]
      · have hb2 : s.1.testBit u = true := by
          rw [show decide (u = v) = false from decide_eq_false e, Bool.or_false] at hb
          exact hb
        obtain ⟨i, hi, hq⟩ := h5 u hu hb2
        refine ⟨i, by show i < s.2.1 + 1; omega, ?_⟩
        show (if i = s.2.1 then v else s.2.2 i) = u
        rw [if_neg (by omega)]
        exact hq
    · have hi : i < s.2.1 + 1 := hi
      have h9 : e.2 = (if i = s.2.1 then v else s.2.2 i) := h9
      by_cases ei : i = s.2.1
      · rw [if_pos ei] at h9
        obtain ⟨a1, a2, a3⟩ := hA e he
        rw [h9] at a3
        obtain ⟨j, hj, hq⟩ := h5 e.1 a1 (q.2 e.1 a1 a3)
        refine ⟨j, by omega, ?_⟩
        show (if j = s.2.1 then v else s.2.2 j) = e.1
        rw [if_neg (by omega)]
        exact hq
      · rw [if_neg ei] at h9
        obtain ⟨j, hj, hq⟩ := h6 i (by omega) e he h9
        refine ⟨j, hj, ?_⟩
        show (if j = s.2.1 then v else s.2.2 j) = e.1
        rw [if_neg (by omega)]
        exact hq
  · rw [if_neg q]; exact h
theorem OI_in {E : List (Nat × Nat)} {A : Nat → Nat} (hA : ∀ e, e ∈ E → e.1 < 6 ∧ e.2 < 6 ∧ (A e.2).testBit e.1 = true) : ∀ {j v s}, j + v ≤ 6 → OI E s → OI E (oIn A j v s)
  | 0, v, s, _, h => h
  | j + 1, v, s, hj, h => by
    unfold oIn
    exact OI_in hA (j := j) (v := v + 1) (by omega) (OI_step hA (by omega) h)
theorem OI_out {E : List (Nat × Nat)} {A : Nat → Nat} (hA : ∀ e, e ∈ E → e.1 < 6 ∧ e.2 < 6 ∧ (A e.2).testBit e.1 = true) : ∀ {j s}, OI E s → OI E (oOut A j s)
  | 0, s, h => h
  | j + 1, s, h => by
    unfold oOut
    exact OI_out hA (j := j) (OI_in hA (by omega) h)
theorem OI_0 {E : List (Nat × Nat)} {o : Nat → Nat} : OI E (0, 0, o) := by
  refine ⟨by show 0 ≤ 6; omega, by show 0 < 64; omega, fun i hi => ?_, fun i j _ hj => ?_, fun v _ hb => ?_, fun i hi => ?_⟩
  · exact absurd hi (Nat.not_lt_zero i)
  · exact absurd hj (Nat.not_lt_zero j)
  · have : (0 : Nat).testBit v = true := hb
    rw [Nat.zero_testBit] at this
    cases this
  · exact absurd hi (Nat.not_lt_zero i)
theorem oStep_mono {A : Nat → Nat} {s : Nat × Nat × (Nat → Nat)} {v : Nat} : (∀ u, s.1.testBit u = true → (oStep A s v).1.testBit u = true) ∧ s.2.1 ≤ (oStep A s v).2.1 ∧ ((oStep A s v).2.1 = s.2.1 → (oStep A s v).1 = s.1) := by
  unfold oStep
  by_cases q : s.1.testBit v = false ∧ sub6 (A v) s.1
  · rw [if_pos q]
    refine ⟨fun u hu => ?_, by show s.2.1 ≤ s.2.1 + 1; omega, fun h => ?_⟩
    · show (s.1 ||| 2 ^ v).testBit u = true
      rw [fb_bit_set, hu]; rfl
    · have : s.2.1 + 1 = s.2.1 := h
      omega
  · rw [if_neg q]; exact ⟨fun _ h => h, Nat.le_refl _, fun _ => rfl⟩
theorem oIn_mono {A : Nat → Nat} : ∀ {j v s}, (∀ u, s.1.testBit u = true → (oIn A j v s).1.testBit u = true) ∧ s.2.1 ≤ (oIn A j v s).2.1 ∧ ((oIn A j v s).2.1 = s.2.1 → (oIn A j v s).1 = s.1)
  | 0, v, s => ⟨fun _ h => h, Nat.le_refl _, fun _ => rfl⟩
  | j + 1, v, s => by
    unfold oIn
    obtain ⟨a1, a2, a3⟩ := oStep_mono (A := A) (s := s) (v := v)
    obtain ⟨b1, b2, b3⟩ := oIn_mono (A := A) (j := j) (v := v + 1) (s := oStep A s v)
    exact ⟨fun u h => b1 u (a1 u h), by omega, fun h => (b3 (by omega)).trans (a3 (by omega))⟩
theorem oIn_gets {A : Nat → Nat} {y : Nat} : ∀ {j v s}, v ≤ y → y < v + j → sub6 (A y) s.1 → (oIn A j v s).1.testBit y = true
  | 0, v, s, h1, h2, _ => by omega
  | j + 1, v, s, h1, h2, h3 => by
    unfold oIn
    by_cases e : y = v
    · subst e
      refine (oIn_mono (A := A) (j := j) (v := y + 1) (s := oStep A s y)).1 y ?_
      unfold oStep
      cases hb : s.1.testBit y with
      | true =>
        rw [if_neg (fun q => by cases q.1)]
        exact hb
      | false =>
        rw [if_pos ⟨rfl, h3⟩]
        show (s.1 ||| 2 ^ y).testBit y = true
        rw [fb_bit_set]; simp
    · exact oIn_gets (j := j) (v := v + 1) (by omega) (by omega) (fun u hu ha => (oStep_mono (A := A) (s := s) (v := v)).1 u (h3 u hu ha))
theorem oOut_grow {E : List (Nat × Nat)} {A : Nat → Nat} {ρ : Nat → Nat} (hA : ∀ e, e ∈ E → e.1 < 6 ∧ e.2 < 6 ∧ (A e.2).testBit e.1 = true) (hA2 : ∀ v u, v < 6 → u < 6 → (A v).testBit u = true → (u, v) ∈ E) (hr : rkE E ρ) : ∀ {j s}, OI E s → 6 ≤ s.2.1 + j → (oOut A j s).2.1 = 6
  | 0, s, h, h2 => by
    have := h.1
    show s.2.1 = 6
    omega
  | j + 1, s, h, h2 => by
    unfold oOut
    have hI := OI_in hA (j := 6) (v := 0) (by omega) h
    obtain ⟨m1, m2, m3⟩ := oIn_mono (A := A) (j := 6) (v := 0) (s := s)
    by_cases hc : s.2.1 = 6
    · exact oOut_grow hA hA2 hr (j := j) hI (by omega)
    · refine oOut_grow hA hA2 hr (j := j) hI ?_
      have : s.2.1 < (oIn A 6 0 s).2.1 := by
        by_cases e : (oIn A 6 0 s).2.1 = s.2.1
        · exfalso
          have eD := m3 e
          have hun : ∃ y, y < 6 ∧ s.1.testBit y = false := by
            by_cases q : ∃ y, y < 6 ∧ s.1.testBit y = false
            · exact q
            · exfalso
              have hall : ∀ y, y < 6 → s.1.testBit y = true := fun y hy => by
                cases hb : s.1.testBit y with
                | true => rfl
                | false => exact absurd ⟨y, hy, hb⟩ q
              obtain ⟨h1, h2, h3, h4, h5, h6⟩ := h
              have hidx : ∀ y, ∃ i, y < 6 → i < s.2.1 ∧ s.2.2 i = y := fun y => by
                by_cases hy : y < 6
                · obtain ⟨i, a, b⟩ := h5 y hy (hall y hy)
                  exact ⟨i, fun _ => ⟨a, b⟩⟩
                · exact ⟨0, fun q => absurd q hy⟩
              have hf := fb_holes s.2.1 6 (fun y => (hidx y).choose) (fun y hy => ((hidx y).choose_spec hy).1) (fun a b hab hb heq => by
                have ea := ((hidx a).choose_spec (by omega)).2
                have eb := ((hidx b).choose_spec hb).2
                have heq : (hidx a).choose = (hidx b).choose := heq
                rw [heq, eb] at ea
                omega)
              omega
          obtain ⟨y0, hy0, hb0⟩ := hun
          have hmin : ∃ y, y < 6 ∧ s.1.testBit y = false ∧ ∀ z, z < 6 → s.1.testBit z = false → ρ y ≤ ρ z := by
            have key : ∀ k y, y < 6 → s.1.testBit y = false → ρ y ≤ k → ∃ y, y < 6 ∧ s.1.testBit y = false ∧ ∀ z, z < 6 → s.1.testBit z = false → ρ y ≤ ρ z := by
              intro k
              induction k with
              | zero => intro y hy hb hk; exact ⟨y, hy, hb, fun z _ _ => by omega⟩
              | succ k ih =>
                intro y hy hb hk
                by_cases q : ∃ z, z < 6 ∧ s.1.testBit z = false ∧ ρ z < ρ y
                · obtain ⟨z, hz, hbz, hlt⟩ := q
                  exact ih z hz hbz (by omega)
                · exact ⟨y, hy, hb, fun z hz hbz => by
                    by_cases w : ρ y ≤ ρ z
                    · exact w
                    · exact absurd ⟨z, hz, hbz, by omega⟩ q⟩
            exact key (ρ y0) y0 hy0 hb0 (Nat.le_refl _)
          obtain ⟨y, hy, hb, hm⟩ := hmin
          have hs : sub6 (A y) s.1 := fun u hu ha => by
            have hlt := hr (u, y) (hA2 y u hy hu ha)
            cases hq : s.1.testBit u with
            | true => rfl
            | false =>
              have := hm u hu hq
              have hlt : ρ u < ρ y := hlt
              omega
          have := oIn_gets (A := A) (y := y) (j := 6) (v := 0) (s := s) (by omega) (by omega) hs
          rw [eD, hb] at this
          cases this
        · omega
      omega
/-- where all six stand in the order, that is a rank -/
theorem OI_rank {E : List (Nat × Nat)} (hE : ∀ e, e ∈ E → e.1 < 6 ∧ e.2 < 6) {s : Nat × Nat × (Nat → Nat)} (h : OI E s) (h6 : s.2.1 = 6) : ∃ ρ : Nat → Nat, rkE E ρ ∧ (∀ v, ρ v ≤ 5) ∧ (∀ v, v < 6 → s.2.2 (ρ v) = v) ∧ ∀ i, i < 6 → ρ (s.2.2 i) = i := by
  obtain ⟨h1, h2, h3, h4, h5, h7⟩ := h
  rw [h6] at h3 h4 h7
  have hidx : ∀ y, ∃ i, i ≤ 5 ∧ (y < 6 → s.2.2 i = y) := fun y => by
    by_cases hy : y < 6
    · obtain ⟨i, hi, e⟩ := fb_onto (n := 6) (f := s.2.2) (fun i hi => (h3 i hi).1) h4 hy
      exact ⟨i, by omega, fun _ => e⟩
    · exact ⟨0, by omega, fun q => absurd q hy⟩
  have hinj : ∀ i j, i < 6 → j < 6 → s.2.2 i = s.2.2 j → i = j := fun i j hi hj e => by
    rcases Nat.lt_trichotomy i j with q | q | q
    · exact absurd e (h4 i j q hj)
    · exact q
    · exact absurd e.symm (h4 j i q hi)
  have r5 : ∀ v, (hidx v).choose ≤ 5 := fun v => (hidx v).choose_spec.1
  have rv : ∀ v, v < 6 → s.2.2 (hidx v).choose = v := fun v hv => (hidx v).choose_spec.2 hv
  refine ⟨fun y => (hidx y).choose, fun e he => ?_, r5, rv, fun i hi => ?_⟩
  · show (hidx e.1).choose < (hidx e.2).choose
    obtain ⟨e1, e2⟩ := hE e he
    have b5 := r5 e.2
    obtain ⟨j, hj, q⟩ := h7 (hidx e.2).choose (by omega) e he (rv e.2 e2).symm
    have a5 := r5 e.1
    have := hinj (hidx e.1).choose j (by omega) (by omega) ((rv e.1 e1).trans q.symm)
    omega
  · show (hidx (s.2.2 i)).choose = i
    have a5 := r5 (s.2.2 i)
    exact hinj _ _ (by omega) hi (rv (s.2.2 i) (h3 i hi).1)
