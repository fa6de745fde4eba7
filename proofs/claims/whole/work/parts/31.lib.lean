/-! numbers and rows: what the pure functions are read with -/
theorem gd_t {α : Type} {b : Bool} {o : Option α} (h : b = true) : gd b o = o := by rw [h]; rfl
theorem bnd_s {ρ ρ2 : Type} {r : ρ} {s : Hp} {k : ρ → Hp → Option (ρ2 × Hp)} : bnd (some (r, s)) k = k r s := rfl
theorem inbN {i n : Nat} (h : i < n) (hn : n < 2 ^ 31) : inb (nI i) n = true := by
  unfold inb
  have h1 : (nI i).toNatClampNeg = i := nI_clamp (by omega)
  have h2 : ¬ nI i < 0 := nI_pos (by omega)
  simp [h1, h2]
  omega
theorem ltN {a b : Nat} (ha : a < 2 ^ 31) (hb : b < 2 ^ 31) : (nI a < nI b) = (a < b) := propext (nI_ltI ha hb)
theorem leN {a b : Nat} (ha : a < 2 ^ 31) (hb : b < 2 ^ 31) : (nI a ≤ nI b) = (a ≤ b) := propext (nI_leI ha hb)
theorem eqN {a b : Nat} (ha : a < 2 ^ 31) (hb : b < 2 ^ 31) : (nI a = nI b) = (a = b) := propext (nI_eq ha hb)
theorem i0 : (0 : Int32) = nI 0 := rfl
theorem i1 : (1 : Int32) = nI 1 := rfl
/-- a for-loop whose state at place t is S t -/
theorem floop {α : Type} {N : Nat} (L : Nat → Int32 → Hp → Option α) (S : Nat → Hp) (r : Option α) (hs : ∀ n t, t < N → L (n + 1) (nI t) (S t) = L n (nI (t + 1)) (S (t + 1))) (he : ∀ n, L (n + 1) (nI N) (S N) = r) : ∀ (n t : Nat), t ≤ N → N < n + t → L n (nI t) (S t) = r := by
  intro n
  induction n with
  | zero => intro t h1 h2; omega
  | succ n ih =>
    intro t h1 h2
    rcases Nat.lt_or_ge t N with h | h
    · rw [hs n t h]
      exact ih (t + 1) h (by omega)
    · have e : t = N := by omega
      subst e
      exact he n
/-- a row's first places are new -/
def fil (sg : Hp) (c : Nat) (F : Nat → Int32) (t : Nat) : Hp := fun b j => if b = c ∧ j < t then F j else sg b j
theorem fil_in {sg : Hp} {c : Nat} {F : Nat → Int32} {t j : Nat} (h : j < t) : fil sg c F t c j = F j := by simp [fil, h]
theorem fil_out {sg : Hp} {c : Nat} {F : Nat → Int32} {t b j : Nat} (h : b ≠ c ∨ t ≤ j) : fil sg c F t b j = sg b j := by
  unfold fil
  rw [if_neg]
  omega
theorem fil_0 {sg : Hp} {c : Nat} {F : Nat → Int32} : fil sg c F 0 = sg := by
  funext b j
  simp [fil]
theorem fil_up {sg : Hp} {c : Nat} {F : Nat → Int32} {t : Nat} {x : Int32} (h : x = F t) : up2 (fil sg c F t) c t x = fil sg c F (t + 1) := by
  funext b j
  unfold up2 upC fil upd
  by_cases hb : b = c
  · subst hb
    by_cases hj : j = t
    · subst hj
      simp [h]
    · simp [hj]
      by_cases h1 : j < t
      · simp [h1, Nat.lt_succ_of_lt h1]
      · simp [h1, show ¬ j < t + 1 by omega]
  · simp [hb]
theorem up2_at {sg : Hp} {c k b j : Nat} {x : Int32} : up2 sg c k x b j = if b = c ∧ j = k then x else sg b j := by
  unfold up2 upC upd
  by_cases hb : b = c
  · subst hb
    by_cases hj : j = k <;> simp [hj]
  · simp [hb]
theorem up2_s {sg : Hp} {c k : Nat} {x : Int32} : up2 sg c k x c k = x := by rw [up2_at]; simp
theorem up2_o {sg : Hp} {c k b j : Nat} {x : Int32} (h : b ≠ c ∨ j ≠ k) : up2 sg c k x b j = sg b j := by
  rw [up2_at, if_neg]
  omega
theorem nloop {α : Type} {N M : Nat} (W : Nat → Nat → α) (r : α) (hs : ∀ n t, M ≤ t → t < N → W (n + 1) t = W n (t + 1)) (he : ∀ n, W (n + 1) N = r) : ∀ (n t : Nat), M ≤ t → t ≤ N → N < n + t → W n t = r := by
  intro n
  induction n with
  | zero => intro t h0 h1 h2; omega
  | succ n ih =>
    intro t h0 h1 h2
    rcases Nat.lt_or_ge t N with h | h
    · rw [hs n t h0 h]
      exact ih (t + 1) (by omega) h (by omega)
    · have e : t = N := by omega
      subst e
      exact he n
theorem cl0 : (0 : Int32).toNatClampNeg = 0 := rfl
theorem inb0 {n : Nat} (h : 0 < n) : inb 0 n = true := by
  unfold inb
  rw [cl0]
  simp
  omega
theorem subN {a b : Nat} (h : b ≤ a) : nI a - nI b = nI (a - b) := pk_sub h
theorem subN1 {a : Nat} (h : 1 ≤ a) : nI a - 1 = nI (a - 1) := by rw [i1]; exact pk_sub h
theorem up2_fil0 {sg : Hp} {c : Nat} {F : Nat → Int32} {x : Int32} (h : x = F 0) : up2 sg c 0 x = fil sg c F 1 := by
  have := fil_up (sg := sg) (c := c) (F := F) (t := 0) h
  rw [fil_0] at this
  exact this
/-! the rows' algebra -/
def maxU (F : Nat → Int32) (a : Int32) : Nat → Int32
  | 0 => a
  | n + 1 => mxI (maxU F a n) (F n)
def minU (F : Nat → Int32) (a : Int32) : Nat → Int32
  | 0 => a
  | n + 1 => mnI (minU F a n) (F n)
def sSum (f g : Nat → Int32) : Nat → Int32 := fun t => mnI (f t + g t) 99999
def sLeast (f g : Nat → Int32) : Nat → Int32 := fun t => mnI (f t) (g t)
def sLeft (f g : Nat → Int32) : Nat → Int32 := fun t => maxU (fun s => f s - g s) 0 (t + 1)
def sAlong (f g : Nat → Int32) : Nat → Int32 := fun t => minU (fun s => f s + g (t - s)) 99999 (t + 1)
def sOut (f g : Nat → Int32) : Nat → Int32
  | 0 => 0
  | t + 1 => maxU (fun u => f (t + 1 + u) - g u) (sOut f g t) (40 - t)
def sAhead (f : Nat → Int32) (d : Nat) : Nat → Int32 := fun t => if t = 0 then 0 else f (min (t + d) 40)
def sBack (f : Nat → Int32) (d : Nat) : Nat → Int32 := fun t => if t < d then 0 else f (t - d)
def sSteps (m : Nat → Int32) (n : Nat) : Nat → Int32
  | 0 => 0
  | t + 1 => mnI (sSteps m n t + m (min (t + 1) n - 1)) 99999
def sBucket (b r : Int32) : Nat → Int32 := fun t => if t = 0 then 0 else mnI (b + r * nI t) 99999
def sLate (l : Nat) (r : Int32) : Nat → Int32 := fun t => if t ≤ l then 0 else r * (nI t - nI l)
def sHeap (f g : Nat → Int32) : Int32 := maxU (fun t => f t - g t) 0 41
