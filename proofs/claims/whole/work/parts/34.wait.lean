/-! the longest wait: by two fingers (the class), by a search from each tick (the reference) -/
def nxt (g : Nat → Int32) (x : Int32) : Nat → Nat → Nat
  | 0, s => s
  | n + 1, s => if x ≤ g s then s else nxt g x n (s + 1)
theorem nxt_ge (g : Nat → Int32) (x : Int32) : ∀ n s, s ≤ nxt g x n s
  | 0, s => Nat.le_refl s
  | n + 1, s => by
    unfold nxt
    by_cases h : x ≤ g s
    · rw [if_pos h]; exact Nat.le_refl s
    · rw [if_neg h]
      have := nxt_ge g x n (s + 1)
      omega
theorem nxt_le (g : Nat → Int32) (x : Int32) : ∀ n s, nxt g x n s ≤ s + n
  | 0, s => Nat.le_refl s
  | n + 1, s => by
    unfold nxt
    by_cases h : x ≤ g s
    · rw [if_pos h]; omega
    · rw [if_neg h]
      have := nxt_le g x n (s + 1)
      omega
theorem nxt_no (g : Nat → Int32) (x : Int32) : ∀ n s j, s ≤ j → j < nxt g x n s → ¬ x ≤ g j
  | 0, s, j, h1, h2 => by
    unfold nxt at h2
    omega
  | n + 1, s, j, h1, h2 => by
    unfold nxt at h2
    by_cases h : x ≤ g s
    · rw [if_pos h] at h2; omega
    · rw [if_neg h] at h2
      by_cases e : j = s
      · rw [e]; exact h
      · exact nxt_no g x n (s + 1) j (by omega) h2
theorem nxt_yes (g : Nat → Int32) (x : Int32) : ∀ n s, nxt g x n s < s + n → x ≤ g (nxt g x n s)
  | 0, s, h => by
    unfold nxt at h
    omega
  | n + 1, s, h => by
    unfold nxt at h ⊢
    by_cases h1 : x ≤ g s
    · rw [if_pos h1]; exact h1
    · rw [if_neg h1] at h ⊢
      exact nxt_yes g x n (s + 1) (by omega)
theorem nxt_cong {g g2 : Nat → Int32} {x : Int32} : ∀ {n s}, (∀ j, s ≤ j → j < s + n → g j = g2 j) → nxt g x n s = nxt g2 x n s
  | 0, s, _ => rfl
  | n + 1, s, h => by
    unfold nxt
    rw [h s (Nat.le_refl s) (by omega), nxt_cong (n := n) (s := s + 1) (fun j h1 h2 => h j (by omega) (by omega))]
def ser (f g : Nat → Int32) (t : Nat) : Nat := nxt g (f t) (41 - t) t
def wt (f g : Nat → Int32) : Nat → Option Nat
  | 0 => some 0
  | n + 1 => match wt f g n with
    | none => none
    | some m => if ser f g n = 41 then none else some (max m (ser f g n - n))
def sWait (f g : Nat → Int32) (last : Nat) : Int32 := match wt f g (last + 1) with
  | none => -9
  | some m => nI m
theorem ser_ge (f g : Nat → Int32) (t : Nat) : t ≤ ser f g t := nxt_ge _ _ _ _
theorem ser_le {f g : Nat → Int32} {t : Nat} (ht : t ≤ 41) : ser f g t ≤ 41 := by
  have := nxt_le g (f t) (41 - t) t
  unfold ser
  omega
theorem ser_no {f g : Nat → Int32} {t j : Nat} (h1 : t ≤ j) (h2 : j < ser f g t) : ¬ f t ≤ g j := nxt_no _ _ _ _ j h1 h2
theorem ser_yes {f g : Nat → Int32} {t : Nat} (ht : t < 41) (h : ser f g t ≠ 41) : f t ≤ g (ser f g t) := nxt_yes _ _ _ _ (by
  have := ser_le (f := f) (g := g) (Nat.le_of_lt ht)
  unfold ser at this h
  omega)
theorem ser_cong {f f2 g g2 : Nat → Int32} {t : Nat} (hf : f t = f2 t) (hg : ∀ j, j < 41 → g j = g2 j) : ser f g t = ser f2 g2 t := by
  unfold ser
  rw [hf]
  exact nxt_cong (fun j h1 h2 => hg j (by omega))
theorem wt_cong {f f2 g g2 : Nat → Int32} : ∀ {n}, (∀ t, t < n → f t = f2 t) → (∀ j, j < 41 → g j = g2 j) → wt f g n = wt f2 g2 n
  | 0, _, _ => rfl
  | n + 1, h1, h2 => by
    unfold wt
    rw [wt_cong (fun t ht => h1 t (by omega)) h2, ser_cong (h1 n (by omega)) h2]
theorem sWait_cong {f f2 g g2 : Nat → Int32} {last : Nat} (h1 : ∀ t, t ≤ last → f t = f2 t) (h2 : ∀ j, j < 41 → g j = g2 j) : sWait f g last = sWait f2 g2 last := by
  unfold sWait
  rw [wt_cong (fun t ht => h1 t (by omega)) h2]
theorem wt_le {f g : Nat → Int32} : ∀ {n m}, n ≤ 41 → wt f g n = some m → m ≤ 40
  | 0, m, _, h => by
    unfold wt at h
    cases h
    omega
  | n + 1, m, hn, h => by
    unfold wt at h
    cases hw : wt f g n with
    | none => rw [hw] at h; cases h
    | some k =>
      rw [hw] at h
      have hk := wt_le (n := n) (by omega) hw
      by_cases hs : ser f g n = 41
      · simp [hs] at h
      · have h2 := ser_le (f := f) (g := g) (t := n) (by omega)
        simp [hs] at h
        omega
theorem sWait_cases (f g : Nat → Int32) {last : Nat} (hl : last ≤ 40) : sWait f g last = -9 ∨ ∃ m, m ≤ 40 ∧ sWait f g last = nI m := by
  unfold sWait
  cases h : wt f g (last + 1) with
  | none => exact Or.inl rfl
  | some m => exact Or.inr ⟨m, wt_le (by omega) h, rfl⟩
theorem wt_prev {f g : Nat → Int32} {n m : Nat} (h : wt f g (n + 1) = some m) : ∃ k, wt f g n = some k ∧ ser f g n ≠ 41 ∧ m = max k (ser f g n - n) := by
  unfold wt at h
  cases hw : wt f g n with
  | none => rw [hw] at h; cases h
  | some k =>
    rw [hw] at h
    by_cases hs : ser f g n = 41
    · simp [hs] at h
    · simp [hs] at h
      exact ⟨k, rfl, hs, h.symm⟩
theorem wt_down {f g : Nat → Int32} : ∀ {n m}, wt f g n = some m → ∀ j, j ≤ n → ∃ k, wt f g j = some k
  | 0, m, h, j, hj => by
    have : j = 0 := by omega
    subst this
    exact ⟨m, h⟩
  | n + 1, m, h, j, hj => by
    by_cases e : j = n + 1
    · subst e; exact ⟨m, h⟩
    · obtain ⟨k, hk, -⟩ := wt_prev h
      exact wt_down hk j (by omega)
/-- where it first fails -/
theorem wt_fail {f g : Nat → Int32} : ∀ {n}, wt f g n = none → ∃ t, t < n ∧ (∃ k, wt f g t = some k) ∧ ser f g t = 41
  | 0, h => by
    unfold wt at h
    cases h
  | n + 1, h => by
    cases hw : wt f g n with
    | none =>
      obtain ⟨t, h1, h2⟩ := wt_fail hw
      exact ⟨t, by omega, h2⟩
    | some k =>
      refine ⟨n, by omega, ⟨k, hw⟩, ?_⟩
      unfold wt at h
      rw [hw] at h
      by_cases hs : ser f g n = 41
      · exact hs
      · simp [hs] at h
def wv (f g : Nat → Int32) (n : Nat) : Nat := (wt f g n).getD 0
theorem wv_some {f g : Nat → Int32} {n k : Nat} (h : wt f g n = some k) : wv f g n = k := by
  unfold wv
  rw [h]
  rfl
theorem wv_step {f g : Nat → Int32} {n m : Nat} (h : wt f g (n + 1) = some m) : wv f g (n + 1) = max (wv f g n) (ser f g n - n) ∧ ser f g n ≠ 41 := by
  obtain ⟨k, h1, h2, h3⟩ := wt_prev h
  rw [wv_some h, wv_some h1]
  exact ⟨h3, h2⟩
theorem wv_le {f g : Nat → Int32} {n : Nat} (h : n ≤ 41) : wv f g n ≤ 40 := by
  unfold wv
  cases hw : wt f g n with
  | none => show 0 ≤ 40; omega
  | some k => exact wt_le h hw
theorem lnot {x y : Int32} (h : ¬ x ≤ y) : y < x := fa_of_nle h
section WM
variable {f g : Nat} {sg : Hp}
theorem laterBy_ok {t : Nat} (hf : f < 90) (hg : g < 90) (ht : t < 41) : fX7_laterBy (nI f) (nI g) (nI t) sg = some (if ser (mr sg f) (mr sg g) t = 41 then -9 else nI (ser (mr sg f) (mr sg g) t - t), sg) := by
  unfold fX7_laterBy
  have h1 := ser_ge (mr sg f) (mr sg g) t
  have h2 := ser_le (f := mr sg f) (g := mr sg g) (Nat.le_of_lt ht)
  refine nloop (N := ser (mr sg f) (mr sg g) t - t) (M := 0) (fun n s => L_X7_laterBy_3 (fun (s2 : Hp) => some ((-9 : Int32), s2)) (fun (w : Int32) (s2 : Hp) => some (w, s2)) n (nI f) (nI g) (nI t) (nI s) sg) _
    (fun n s _ hs => by
      have hno := ser_no (f := mr sg f) (g := mr sg g) (t := t) (j := t + s) (by omega) (by omega)
      simp only [L_X7_laterBy_3, nI_add]
      rw [if_neg (nlt41 (by omega)), of_ok hg (by omega), bnd_s, of_ok hf ht, bnd_s, if_pos (lnot hno), nI_1])
    (fun n => by
      simp only [L_X7_laterBy_3, nI_add]
      by_cases e : ser (mr sg f) (mr sg g) t = 41
      · rw [if_pos e, show t + (ser (mr sg f) (mr sg g) t - t) = 41 by omega, if_pos p41]
      · have hy := ser_yes (f := mr sg f) (g := mr sg g) ht e
        rw [if_neg e, show t + (ser (mr sg f) (mr sg g) t - t) = ser (mr sg f) (mr sg g) t by omega, if_neg (nlt41 (by omega)), of_ok hg (by omega), bnd_s, of_ok hf ht, bnd_s, if_neg (by rw [fa_lt]; rw [fa_le] at hy; omega)])
    200 0 (by omega) (by omega) (by omega)
theorem waitOf_ok {last : Nat} (hf : f < 90) (hg : g < 90) (hl : last ≤ 40) : fX7_waitOf (nI f) (nI g) (nI last) sg = some (sWait (mr sg f) (mr sg g) last, sg) := by
  unfold fX7_waitOf
  have step : ∀ n t, t ≤ last → ser (mr sg f) (mr sg g) t ≠ 41 → L_X7_waitOf_6 (fun (w : Int32) (s2 : Hp) => some (w, s2)) (fun (s2 : Hp) => some ((-9 : Int32), s2)) (n + 1) (nI f) (nI g) (nI last) (nI (wv (mr sg f) (mr sg g) t)) (nI t) sg = L_X7_waitOf_6 (fun (w : Int32) (s2 : Hp) => some (w, s2)) (fun (s2 : Hp) => some ((-9 : Int32), s2)) n (nI f) (nI g) (nI last) (nI (max (wv (mr sg f) (mr sg g) t) (ser (mr sg f) (mr sg g) t - t))) (nI (t + 1)) sg := by
    intro n t ht hs
    have h2 := ser_le (f := mr sg f) (g := mr sg g) (t := t) (by omega)
    have h3 := wv_le (f := mr sg f) (g := mr sg g) (n := t) (by omega)
    simp only [L_X7_waitOf_6]
    rw [if_neg (by rw [ltN (by omega) (by omega)]; omega), laterBy_ok hf hg (by omega), bnd_s, if_neg hs, if_pos (nI_pos' (by omega)), greater_ok, bnd_s, mxN (by omega) (by omega), nI_1]
  cases hw : wt (mr sg f) (mr sg g) (last + 1) with
  | some m =>
    refine nloop (N := last + 1) (M := 0) (fun n t => L_X7_waitOf_6 (fun (w : Int32) (s2 : Hp) => some (w, s2)) (fun (s2 : Hp) => some ((-9 : Int32), s2)) n (nI f) (nI g) (nI last) (nI (wv (mr sg f) (mr sg g) t)) (nI t) sg) _
      (fun n t _ ht => by
        obtain ⟨k, hk⟩ := wt_down hw (t + 1) (by omega)
        obtain ⟨e1, e2⟩ := wv_step hk
        rw [step n t (by omega) e2, e1])
      (fun n => by
        simp only [L_X7_waitOf_6]
        rw [if_pos (by rw [ltN (by omega) (by omega)]; omega), wv_some hw]
        unfold sWait
        rw [hw])
      200 0 (by omega) (by omega) (by omega)
  | none =>
    obtain ⟨t0, h1, ⟨k0, h2⟩, h3⟩ := wt_fail hw
    refine nloop (N := t0) (M := 0) (fun n t => L_X7_waitOf_6 (fun (w : Int32) (s2 : Hp) => some (w, s2)) (fun (s2 : Hp) => some ((-9 : Int32), s2)) n (nI f) (nI g) (nI last) (nI (wv (mr sg f) (mr sg g) t)) (nI t) sg) _
      (fun n t _ ht => by
        obtain ⟨k, hk⟩ := wt_down h2 (t + 1) (by omega)
        obtain ⟨e1, e2⟩ := wv_step hk
        rw [step n t (by omega) e2, e1])
      (fun n => by
        simp only [L_X7_waitOf_6]
        rw [if_neg (by rw [ltN (by omega) (by omega)]; omega), laterBy_ok hf hg (by omega), bnd_s, if_pos h3, if_neg (by decide)]
        unfold sWait
        rw [hw])
      200 0 (by omega) (by omega) (by omega)
end WM
section WC
variable {a b : Nat} {sg : Hp}
theorem find_ok {k : Nat → Nat → Int32 → Int32 → Int32 → Int32 → Hp → Option (Int32 × Hp)} {t s0 : Nat} {x y : Int32} (h0 : alen tC a = 41) (h1 : alen tC b = 41) (ht : t < 41) (hs : t ≤ s0) (hs2 : s0 ≤ ser (sg a) (sg b) t) : L_X1_longestWait_23 k 200 a b x y (nI s0) (nI t) sg = k a b x y (nI (ser (sg a) (sg b) t)) (nI t) sg := by
  have h2 := ser_le (f := sg a) (g := sg b) (Nat.le_of_lt ht)
  refine nloop (N := ser (sg a) (sg b) t) (M := t) (fun n s => L_X1_longestWait_23 k n a b x y (nI s) (nI t) sg) _
    (fun n s h5 h6 => by
      have hno := ser_no (f := sg a) (g := sg b) h5 h6
      have e1 : ¬ (40 : Int32) < nI s := by rw [i40, ltN (by omega) (by omega)]; omega
      simp only [L_X1_longestWait_23, if_neg e1, h0, h1, inbN (show s < 41 by omega) (by omega), inbN ht (by omega), gd, cond_true, nI_clamp (show s < 2 ^ 31 by omega), nI_clamp (show t < 2 ^ 31 by omega), nI_1, if_neg hno])
    (fun n => by
      by_cases e : ser (sg a) (sg b) t = 41
      · have e1 : (40 : Int32) < nI (ser (sg a) (sg b) t) := by rw [e]; decide
        simp only [L_X1_longestWait_23, if_pos e1]
      · have hy := ser_yes (f := sg a) (g := sg b) ht e
        have e1 : ¬ (40 : Int32) < nI (ser (sg a) (sg b) t) := by rw [i40, ltN (by omega) (by omega)]; omega
        simp only [L_X1_longestWait_23, if_neg e1, h0, h1, inbN (show ser (sg a) (sg b) t < 41 by omega) (by omega), inbN ht (by omega), gd, cond_true, nI_clamp (show ser (sg a) (sg b) t < 2 ^ 31 by omega), nI_clamp (show t < 2 ^ 31 by omega), if_pos hy])
    200 s0 hs hs2 (by omega)
def hptr (f g : Nat → Int32) (t : Nat) : Nat := if t = 0 then 0 else ser f g (t - 1)
theorem hptr_ok {f g : Nat → Int32} {t : Nat} (hm : ∀ j, j < t → (f j).toInt ≤ (f (j + 1)).toInt) (ht : t < 41) : max (hptr f g t) t ≤ ser f g t := by
  have h1 := ser_ge f g t
  unfold hptr
  by_cases h : t = 0
  · rw [if_pos h]; omega
  · rw [if_neg h]
    rcases Nat.lt_or_ge (ser f g t) (ser f g (t - 1)) with h2 | h2
    · exfalso
      have h3 := ser_no (f := f) (g := g) (t := t - 1) (j := ser f g t) (by omega) h2
      have h4 := ser_le (f := f) (g := g) (t := t - 1) (by omega)
      have h5 := ser_yes (f := f) (g := g) ht (by omega)
      have h6 := hm (t - 1) (by omega)
      rw [show t - 1 + 1 = t by omega] at h6
      rw [fa_le] at h3 h5
      omega
    · omega
theorem longestWait_ok {last : Nat} (h0 : alen tC a = 41) (h1 : alen tC b = 41) (hl : last ≤ 40) (hm : ∀ j, j < last → (sg a j).toInt ≤ (sg a (j + 1)).toInt) : fX1_longestWait a b (nI last) sg = some (sWait (sg a) (sg b) last, sg) := by
  unfold fX1_longestWait
  have hhead : ∀ t, t ≤ 41 → hptr (sg a) (sg b) t ≤ 41 := fun t ht => by
    unfold hptr
    by_cases h : t = 0
    · rw [if_pos h]; omega
    · rw [if_neg h]; exact ser_le (by omega)
  have step : ∀ n t, t ≤ last → ser (sg a) (sg b) t ≠ 41 → L_X1_longestWait_8 (fun (w : Int32) (s2 : Hp) => some (w, s2)) (fun (s2 : Hp) => some ((-9 : Int32), s2)) (n + 1) a b (nI last) (nI (wv (sg a) (sg b) t)) (nI (hptr (sg a) (sg b) t)) (nI t) sg = L_X1_longestWait_8 (fun (w : Int32) (s2 : Hp) => some (w, s2)) (fun (s2 : Hp) => some ((-9 : Int32), s2)) n a b (nI last) (nI (max (wv (sg a) (sg b) t) (ser (sg a) (sg b) t - t))) (nI (hptr (sg a) (sg b) (t + 1))) (nI (t + 1)) sg := by
    intro n t ht hs
    have h2 := ser_le (f := sg a) (g := sg b) (t := t) (by omega)
    have h3 := wv_le (f := sg a) (g := sg b) (n := t) (by omega)
    have h4 := hptr_ok (f := sg a) (g := sg b) (t := t) (fun j hj => hm j (by omega)) (by omega)
    have h5 := hhead t (by omega)
    have h6 := ser_ge (sg a) (sg b) t
    simp only [L_X1_longestWait_8]
    rw [if_neg (by rw [ltN (by omega) (by omega)]; omega), mxN (by omega) (by omega), find_ok h0 h1 (by omega) (by omega) h4]
    rw [if_pos (by rw [i40, leN (by omega) (by omega)]; omega), pk_sub h6, mxN (by omega) (by omega), nI_1]
    rfl
  cases hw : wt (sg a) (sg b) (last + 1) with
  | some m =>
    refine nloop (N := last + 1) (M := 0) (fun n t => L_X1_longestWait_8 (fun (w : Int32) (s2 : Hp) => some (w, s2)) (fun (s2 : Hp) => some ((-9 : Int32), s2)) n a b (nI last) (nI (wv (sg a) (sg b) t)) (nI (hptr (sg a) (sg b) t)) (nI t) sg) _
      (fun n t _ ht => by
        obtain ⟨k, hk⟩ := wt_down hw (t + 1) (by omega)
        obtain ⟨e1, e2⟩ := wv_step hk
        rw [step n t (by omega) e2, e1])
      (fun n => by
        simp only [L_X1_longestWait_8]
        rw [if_pos (by rw [ltN (by omega) (by omega)]; omega), wv_some hw]
        unfold sWait
        rw [hw])
      200 0 (by omega) (by omega) (by omega)
  | none =>
    obtain ⟨t0, g1, ⟨k0, g2⟩, g3⟩ := wt_fail hw
    refine nloop (N := t0) (M := 0) (fun n t => L_X1_longestWait_8 (fun (w : Int32) (s2 : Hp) => some (w, s2)) (fun (s2 : Hp) => some ((-9 : Int32), s2)) n a b (nI last) (nI (wv (sg a) (sg b) t)) (nI (hptr (sg a) (sg b) t)) (nI t) sg) _
      (fun n t _ ht => by
        obtain ⟨k, hk⟩ := wt_down g2 (t + 1) (by omega)
        obtain ⟨e1, e2⟩ := wv_step hk
        rw [step n t (by omega) e2, e1])
      (fun n => by
        have h4 := hptr_ok (f := sg a) (g := sg b) (t := t0) (fun j hj => hm j (by omega)) (by omega)
        have h5 := hhead t0 (by omega)
        simp only [L_X1_longestWait_8]
        rw [if_neg (by rw [ltN (by omega) (by omega)]; omega), mxN (by omega) (by omega), find_ok h0 h1 (by omega) (by omega) h4]
        rw [g3, if_neg (by decide)]
        unfold sWait
        rw [hw])
      200 0 (by omega) (by omega) (by omega)
end WC
