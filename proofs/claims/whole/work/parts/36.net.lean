/-! rows stay rows -/
def req (f g : Nat → Int32) : Prop := ∀ t, t < 41 → f t = g t
theorem req.rfl' {f : Nat → Int32} : req f f := fun _ _ => rfl
theorem req.symm {f g : Nat → Int32} (h : req f g) : req g f := fun t ht => (h t ht).symm
theorem req.trans {f g k : Nat → Int32} (h : req f g) (h2 : req g k) : req f k := fun t ht => (h t ht).trans (h2 t ht)
theorem sSum_cong {f f2 g g2 : Nat → Int32} (h : req f f2) (h2 : req g g2) : req (sSum f g) (sSum f2 g2) := fun t ht => by
  unfold sSum
  rw [h t ht, h2 t ht]
theorem sLeft_cong {f f2 g g2 : Nat → Int32} (h : req f f2) (h2 : req g g2) : req (sLeft f g) (sLeft f2 g2) := fun t ht => by
  unfold sLeft
  exact maxU_cong (fun i hi => by rw [h i (by omega), h2 i (by omega)])
theorem sAlong_cong {f f2 g g2 : Nat → Int32} (h : req f f2) (h2 : req g g2) : req (sAlong f g) (sAlong f2 g2) := fun t ht => by
  unfold sAlong
  exact minU_cong (fun i hi => by rw [h i (by omega), h2 (t - i) (by omega)])
theorem sOut_cong {f f2 g g2 : Nat → Int32} (h : req f f2) (h2 : req g g2) : req (sOut f g) (sOut f2 g2) := by
  intro t
  induction t with
  | zero => intro _; rfl
  | succ t ih =>
    intro ht
    show maxU _ (sOut f g t) (40 - t) = maxU _ (sOut f2 g2 t) (40 - t)
    rw [ih (by omega)]
    exact maxU_cong (fun i hi => by rw [h (t + 1 + i) (by omega), h2 i (by omega)])
theorem sAhead_cong {f f2 : Nat → Int32} {d : Nat} (h : req f f2) : req (sAhead f d) (sAhead f2 d) := fun t ht => by
  unfold sAhead
  rw [h (min (t + d) 40) (by omega)]
theorem sBack_cong {f f2 : Nat → Int32} {d : Nat} (h : req f f2) : req (sBack f d) (sBack f2 d) := fun t ht => by
  unfold sBack
  by_cases h2 : t < d
  · rw [if_pos h2, if_pos h2]
  · rw [if_neg h2, if_neg h2, h (t - d) (by omega)]
theorem sLeast_cong {f f2 g g2 : Nat → Int32} (h : req f f2) (h2 : req g g2) : req (sLeast f g) (sLeast f2 g2) := fun t ht => by
  unfold sLeast
  rw [h t ht, h2 t ht]
theorem sHeap_cong {f f2 g g2 : Nat → Int32} (h : req f f2) (h2 : req g g2) : sHeap f g = sHeap f2 g2 := by
  unfold sHeap
  exact maxU_cong (fun i hi => by rw [h i hi, h2 i hi])
theorem okRow_req {f g : Nat → Int32} (h : req f g) (hf : okRow f) : okRow g := ⟨by rw [← h 0 (by omega)]; exact hf.1, fun t ht => by rw [← h t ht]; exact hf.2.1 t ht, fun t ht => by rw [← h t (by omega), ← h (t + 1) (by omega)]; exact hf.2.2 t ht⟩
theorem rowB_req {f g : Nat → Int32} (h : req f g) (hf : rowB f) : rowB g := fun t ht => by rw [← h t ht]; exact hf t ht
theorem add_i {x y : Int32} (hx : 0 ≤ x.toInt ∧ x.toInt ≤ 99999) (hy : 0 ≤ y.toInt ∧ y.toInt ≤ 99999) : (x + y).toInt = x.toInt + y.toInt := fb_addI (by omega) (by omega)
theorem sum_i {f g : Nat → Int32} (hf : rowB f) (hg : rowB g) {t : Nat} (ht : t < 41) : (sSum f g t).toInt = min ((f t).toInt + (g t).toInt) 99999 := by
  unfold sSum
  rw [mnI_i, add_i (hf t ht) (hg t ht), ti99]
theorem ok_sum {f g : Nat → Int32} (hf : okRow f) (hg : okRow g) : okRow (sSum f g) := by
  refine ⟨?_, fun t ht => ?_, fun t ht => ?_⟩
  · unfold sSum
    rw [hf.1, hg.1]
    decide
  · rw [sum_i hf.2.1 hg.2.1 ht]
    have := hf.2.1 t ht
    have := hg.2.1 t ht
    omega
  · rw [sum_i hf.2.1 hg.2.1 (by omega), sum_i hf.2.1 hg.2.1 (by omega)]
    have := hf.2.2 t ht
    have := hg.2.2 t ht
    omega
theorem ok_least {f g : Nat → Int32} (hf : okRow f) (hg : okRow g) : okRow (sLeast f g) := by
  refine ⟨?_, fun t ht => ?_, fun t ht => ?_⟩
  · unfold sLeast
    rw [hf.1, hg.1]
    decide
  · unfold sLeast
    rw [mnI_i]
    have := hf.2.1 t ht
    have := hg.2.1 t ht
    omega
  · unfold sLeast
    rw [mnI_i, mnI_i]
    have := hf.2.2 t ht
    have := hg.2.2 t ht
    omega
theorem ok_out {f g : Nat → Int32} (hf : okRow f) (hg : rowB g) : okRow (sOut f g) := by
  refine ⟨rfl, fun t ht => ⟨sOut_ge f g t, sOut_le hf.2.1 hg t ht⟩, fun t ht => ?_⟩
  exact maxU_ge (fun u => f (t + 1 + u) - g u) (sOut f g t) (40 - t)
theorem rowB_left {f g : Nat → Int32} (hf : rowB f) (hg : rowB g) : rowB (sLeft f g) := fun t ht => by
  refine ⟨?_, maxU_le (by decide) (fun i hi => ?_)⟩
  · have := maxU_ge (fun s => f s - g s) 0 (t + 1)
    rw [ti0] at this
    exact this
  · have a := hf i (by omega)
    have b := hg i (by omega)
    rw [sub_i a b]
    omega
theorem ok_left {f g : Nat → Int32} (hf : okRow f) (hg : okRow g) : okRow (sLeft f g) := by
  refine ⟨?_, rowB_left hf.2.1 hg.2.1, fun t ht => ?_⟩
  · show mxI 0 (f 0 - g 0) = 0
    rw [hf.1, hg.1]
    decide
  · show _ ≤ (mxI (sLeft f g t) (f (t + 1) - g (t + 1))).toInt
    rw [mxI_i]
    omega
theorem mono_le {f : Nat → Int32} (h : ∀ t, t < 40 → (f t).toInt ≤ (f (t + 1)).toInt) : ∀ {b a}, a ≤ b → b ≤ 40 → (f a).toInt ≤ (f b).toInt
  | 0, a, h1, _ => by
    have : a = 0 := by omega
    rw [this]
    exact Int.le_refl _
  | b + 1, a, h1, h2 => by
    by_cases e : a = b + 1
    · rw [e]; exact Int.le_refl _
    · have := mono_le h (b := b) (a := a) (by omega) (by omega)
      have := h b (by omega)
      omega
theorem ok_ahead {f : Nat → Int32} {d : Nat} (hf : okRow f) : okRow (sAhead f d) := by
  refine ⟨rfl, fun t ht => ?_, fun t ht => ?_⟩
  · unfold sAhead
    by_cases h : t = 0
    · rw [if_pos h]; decide
    · rw [if_neg h]; exact hf.2.1 _ (by omega)
  · unfold sAhead
    rw [if_neg (show ¬ t + 1 = 0 by omega)]
    by_cases h : t = 0
    · rw [if_pos h, ti0]; exact (hf.2.1 _ (by omega)).1
    · rw [if_neg h]; exact mono_le hf.2.2 (by omega) (by omega)
theorem ok_back {f : Nat → Int32} {d : Nat} (hf : okRow f) : okRow (sBack f d) := by
  refine ⟨?_, fun t ht => ?_, fun t ht => ?_⟩
  · unfold sBack
    by_cases h : 0 < d
    · rw [if_pos h]
    · rw [if_neg h, show 0 - d = 0 by omega]; exact hf.1
  · unfold sBack
    by_cases h : t < d
    · rw [if_pos h]; decide
    · rw [if_neg h]; exact hf.2.1 _ (by omega)
  · unfold sBack
    by_cases h : t < d
    · rw [if_pos h, ti0]
      by_cases h2 : t + 1 < d
      · rw [if_pos h2, ti0]; omega
      · rw [if_neg h2]; exact (hf.2.1 _ (by omega)).1
    · rw [if_neg h, if_neg (by omega)]
      exact mono_le hf.2.2 (by omega) (by omega)
theorem minU_le_x (F : Nat → Int32) (x : Int32) : ∀ n, (minU F x n).toInt ≤ x.toInt
  | 0 => Int.le_refl _
  | n + 1 => by
    have := minU_le_x F x n
    show (mnI _ _).toInt ≤ _
    rw [mnI_i]
    omega
theorem minU_le_F (F : Nat → Int32) (x : Int32) : ∀ n i, i < n → (minU F x n).toInt ≤ (F i).toInt
  | 0, i, h => by omega
  | n + 1, i, h => by
    show (mnI _ _).toInt ≤ _
    rw [mnI_i]
    by_cases e : i = n
    · rw [e]; omega
    · have := minU_le_F F x n i (by omega)
      omega
theorem minU_ge {F : Nat → Int32} {x : Int32} {B : Int} (hx : B ≤ x.toInt) : ∀ {n}, (∀ i, i < n → B ≤ (F i).toInt) → B ≤ (minU F x n).toInt
  | 0, _ => hx
  | n + 1, h => by
    have h1 := minU_ge hx (n := n) (fun i hi => h i (by omega))
    have h2 := h n (by omega)
    show B ≤ (mnI _ _).toInt
    rw [mnI_i]
    omega
theorem ok_along {f g : Nat → Int32} (hf : okRow f) (hg : okRow g) : okRow (sAlong f g) := by
  have add : ∀ i j, i < 41 → j < 41 → (f i + g j).toInt = (f i).toInt + (g j).toInt := fun i j hi hj => add_i (hf.2.1 i hi) (hg.2.1 j hj)
  refine ⟨?_, fun t ht => ⟨minU_ge (by decide) (fun i hi => ?_), ?_⟩, fun t ht => ?_⟩
  · show mnI 99999 (f 0 + g (0 - 0)) = 0
    rw [hf.1, show 0 - 0 = 0 from rfl, hg.1]
    decide
  · rw [add i (t - i) (by omega) (by omega)]
    have := hf.2.1 i (by omega)
    have := hg.2.1 (t - i) (by omega)
    omega
  · have := minU_le_x (fun s => f s + g (t - s)) 99999 (t + 1)
    rw [ti99] at this
    exact this
  · refine minU_ge (F := fun s => f s + g (t + 1 - s)) ?_ (fun i hi => ?_)
    · exact minU_le_x _ _ _
    · show (sAlong f g t).toInt ≤ (f i + g (t + 1 - i)).toInt
      rw [add i (t + 1 - i) (by omega) (by omega)]
      by_cases e : i = t + 1
      · have h1 := minU_le_F (fun s => f s + g (t - s)) 99999 (t + 1) t (by omega)
        have h2 : (sAlong f g t).toInt ≤ (f t + g (t - t)).toInt := h1
        rw [add t (t - t) (by omega) (by omega), Nat.sub_self] at h2
        rw [e, Nat.sub_self]
        have := hf.2.2 t (by omega)
        omega
      · have h1 := minU_le_F (fun s => f s + g (t - s)) 99999 (t + 1) i (by omega)
        have h2 : (sAlong f g t).toInt ≤ (f i + g (t - i)).toInt := h1
        rw [add i (t - i) (by omega) (by omega)] at h2
        have h3 := hg.2.2 (t - i) (by omega)
        rw [show t - i + 1 = t + 1 - i by omega] at h3
        omega
theorem ok_zero : okRow (fun _ => 0) := ⟨rfl, fun _ _ => by
  show 0 ≤ (0 : Int32).toInt ∧ (0 : Int32).toInt ≤ 99999
  decide, fun _ _ => Int.le_refl _⟩
/-! nodes and flows, by themselves: how many flows, the lengths of their ways, their nodes, their own rows, what is served, the rule -/
abbrev NT : Type := Nat × (Nat → Nat) × (Nat → Nat → Nat) × (Nat → Nat → Int32) × (Nat → Nat → Int32) × Nat
def nF (N : NT) : Nat := N.1
def nL (N : NT) : Nat → Nat := N.2.1
def nN (N : NT) : Nat → Nat → Nat := N.2.2.1
def nO (N : NT) : Nat → Nat → Int32 := N.2.2.2.1
def nS (N : NT) : Nat → Nat → Int32 := N.2.2.2.2.1
def nR (N : NT) : Nat := N.2.2.2.2.2
def fndx (p : Nat → Bool) : Nat → Nat → Option Nat
  | 0, _ => none
  | n + 1, x => if p x = true then some x else fndx p n (x + 1)
theorem fndx_some {p : Nat → Bool} : ∀ {n x y}, fndx p n x = some y → x ≤ y ∧ y < x + n ∧ p y = true ∧ ∀ j, x ≤ j → j < y → p j = false
  | 0, x, y, h => by
    unfold fndx at h
    cases h
  | n + 1, x, y, h => by
    unfold fndx at h
    by_cases hp : p x = true
    · rw [if_pos hp] at h
      cases h
      exact ⟨Nat.le_refl _, by omega, hp, fun j h1 h2 => by omega⟩
    · rw [if_neg hp] at h
      obtain ⟨h1, h2, h3, h4⟩ := fndx_some h
      refine ⟨by omega, by omega, h3, fun j h5 h6 => ?_⟩
      by_cases e : j = x
      · rw [e]
        cases hq : p x with
        | true => exact absurd hq hp
        | false => rfl
      · exact h4 j (by omega) h6
theorem fndx_none {p : Nat → Bool} : ∀ {n x}, fndx p n x = none → ∀ j, x ≤ j → j < x + n → p j = false
  | 0, x, _, j, h1, h2 => by omega
  | n + 1, x, h, j, h1, h2 => by
    unfold fndx at h
    by_cases hp : p x = true
    · rw [if_pos hp] at h
      cases h
    · rw [if_neg hp] at h
      by_cases e : j = x
      · rw [e]
        cases hq : p x with
        | true => exact absurd hq hp
        | false => rfl
      · exact fndx_none h j (by omega) (by omega)
def plc (N : NT) (w v : Nat) : Option Nat := fndx (fun x => nN N w x == v) (nL N w) 0
theorem plc_some {N : NT} {w v x : Nat} (h : plc N w v = some x) : x < nL N w ∧ nN N w x = v ∧ ∀ j, j < x → nN N w j ≠ v := by
  obtain ⟨h1, h2, h3, h4⟩ := fndx_some h
  refine ⟨by omega, by simpa using h3, fun j hj => ?_⟩
  have := h4 j (Nat.zero_le j) hj
  simpa using this
theorem plc_none {N : NT} {w v : Nat} (h : plc N w v = none) : ∀ j, j < nL N w → nN N w j ≠ v := fun j hj => by
  have := fndx_none h j (Nat.zero_le j) (by omega)
  simpa using this
/-- the sum of what comes at a node, of the flows below a number but one -/
def smC (N : NT) (co : Nat → Nat → Nat → Int32) (v : Nat) (but : Option Nat) : Nat → Nat → Int32
  | 0 => fun _ => 0
  | w + 1 => match plc N w v with
    | some x => if but = some w then smC N co v but w else sSum (smC N co v but w) (co w x)
    | none => smC N co v but w
def haOf (N : NT) (co : Nat → Nat → Nat → Int32) (w x : Nat) : Nat → Int32 := if nR N = 2 then nS N (nN N w x) else sLeft (nS N (nN N w x)) (smC N co (nN N w x) (some w) (if nR N = 0 then w else nF N))
def laOf (N : NT) (co : Nat → Nat → Nat → Int32) (w x : Nat) : Int32 := if nR N = 2 then sWait (smC N co (nN N w x) none (nF N)) (nS N (nN N w x)) 20 else sWait (co w x) (haOf N co w x) 20
def goOf (N : NT) (co : Nat → Nat → Nat → Int32) (w x : Nat) : Nat → Int32 := if nR N = 2 then sAhead (co w x) (laOf N co w x).toNatClampNeg else sOut (co w x) (haOf N co w x)
/-- two pictures agree at a node -/
def agr (N : NT) (co co2 : Nat → Nat → Nat → Int32) (v : Nat) : Prop := ∀ w x, w < nF N → x < nL N w → nN N w x = v → req (co w x) (co2 w x)
theorem smC_cong {N : NT} {co co2 : Nat → Nat → Nat → Int32} {v : Nat} {but : Option Nat} (h : agr N co co2 v) : ∀ {w}, w ≤ nF N → req (smC N co v but w) (smC N co2 v but w)
  | 0, _ => req.rfl'
  | w + 1, hw => by
    have ih := smC_cong (but := but) h (w := w) (by omega)
    unfold smC
    cases hp : plc N w v with
    | none => exact ih
    | some x =>
      by_cases hb : but = some w
      · simp only [if_pos hb]; exact ih
      · simp only [if_neg hb]
        obtain ⟨h1, h2, -⟩ := plc_some hp
        exact sSum_cong ih (h w x (by omega) h1 h2)
theorem haOf_cong {N : NT} {co co2 : Nat → Nat → Nat → Int32} {w x : Nat} (hw : w < nF N) (h : agr N co co2 (nN N w x)) : req (haOf N co w x) (haOf N co2 w x) := by
  unfold haOf
  by_cases hr : nR N = 2
  · rw [if_pos hr, if_pos hr]; exact req.rfl'
  · rw [if_neg hr, if_neg hr]
    refine sLeft_cong req.rfl' (smC_cong h ?_)
    by_cases h0 : nR N = 0
    · rw [if_pos h0]; omega
    · rw [if_neg h0]; exact Nat.le_refl _
theorem laOf_cong {N : NT} {co co2 : Nat → Nat → Nat → Int32} {w x : Nat} (hw : w < nF N) (hx : x < nL N w) (h : agr N co co2 (nN N w x)) : laOf N co w x = laOf N co2 w x := by
  unfold laOf
  by_cases hr : nR N = 2
  · rw [if_pos hr, if_pos hr]
    exact sWait_cong (fun t ht => smC_cong h (Nat.le_refl _) t (by omega)) (fun _ _ => rfl)
  · rw [if_neg hr, if_neg hr]
    exact sWait_cong (fun t ht => h w x hw hx rfl t (by omega)) (haOf_cong hw h)
theorem goOf_cong {N : NT} {co co2 : Nat → Nat → Nat → Int32} {w x : Nat} (hw : w < nF N) (hx : x < nL N w) (h : agr N co co2 (nN N w x)) : req (goOf N co w x) (goOf N co2 w x) := by
  unfold goOf
  by_cases hr : nR N = 2
  · rw [if_pos hr, if_pos hr, laOf_cong hw hx h]
    exact sAhead_cong (h w x hw hx rfl)
  · rw [if_neg hr, if_neg hr]
    exact sOut_cong (h w x hw hx rfl) (haOf_cong hw h)
/-- what comes is what it must be, at the nodes of P -/
def CE (N : NT) (co : Nat → Nat → Nat → Int32) (P : Nat → Prop) : Prop := ∀ w x, w < nF N → x < nL N w → P (nN N w x) → req (co w x) (if x = 0 then nO N w else goOf N co w (x - 1))
def dcl (N : NT) (P : Nat → Prop) : Prop := ∀ w x, w < nF N → x + 1 < nL N w → P (nN N w (x + 1)) → P (nN N w x)
def rnk (N : NT) (ρ : Nat → Nat) : Prop := ∀ w x, w < nF N → x + 1 < nL N w → ρ (nN N w x) < ρ (nN N w (x + 1))
theorem CE_uniq {N : NT} {co co2 : Nat → Nat → Nat → Int32} {P : Nat → Prop} {ρ : Nat → Nat} (hr : rnk N ρ) (hd : dcl N P) (h1 : CE N co P) (h2 : CE N co2 P) : ∀ k w x, w < nF N → x < nL N w → P (nN N w x) → ρ (nN N w x) < k → req (co w x) (co2 w x) := by
  intro k
  induction k with
  | zero => intro w x _ _ _ h; omega
  | succ k ih =>
    intro w x hw hx hp hk
    have e1 := h1 w x hw hx hp
    have e2 := h2 w x hw hx hp
    cases x with
    | zero =>
      rw [if_pos rfl] at e1 e2
      exact e1.trans e2.symm
    | succ x =>
      rw [if_neg (by omega)] at e1 e2
      rw [show x + 1 - 1 = x by omega] at e1 e2
      have hp2 := hd w x hw hx hp
      have hlt := hr w x hw hx
      refine e1.trans (req.trans (goOf_cong hw (by omega) ?_) e2.symm)
      intro w' x' hw' hx' hn
      exact ih w' x' hw' hx' (by rw [hn]; exact hp2) (by rw [hn]; omega)
theorem CE_la {N : NT} {co co2 : Nat → Nat → Nat → Int32} {P : Nat → Prop} {ρ : Nat → Nat} (hr : rnk N ρ) (hd : dcl N P) (h1 : CE N co P) (h2 : CE N co2 P) {w x : Nat} (hw : w < nF N) (hx : x < nL N w) (hp : P (nN N w x)) : laOf N co w x = laOf N co2 w x ∧ req (haOf N co w x) (haOf N co2 w x) ∧ req (goOf N co w x) (goOf N co2 w x) ∧ req (co w x) (co2 w x) := by
  have ha : agr N co co2 (nN N w x) := fun w' x' hw' hx' hn => CE_uniq hr hd h1 h2 (ρ (nN N w x) + 1) w' x' hw' hx' (by rw [hn]; exact hp) (by rw [hn]; omega)
  exact ⟨laOf_cong hw hx ha, haOf_cong hw ha, goOf_cong hw hx ha, ha w x hw hx rfl⟩
/-- all can be told: by a picture whose waits all end -/
def NOk (N : NT) (co : Nat → Nat → Nat → Int32) : Prop := CE N co (fun _ => True) ∧ ∀ w x, w < nF N → x < nL N w → laOf N co w x ≠ -9
/-- it can't: a part is told, and in it a wait doesn't end -/
def NBad (N : NT) : Prop := ∃ (co : Nat → Nat → Nat → Int32) (P : Nat → Prop) (w x : Nat), dcl N P ∧ CE N co P ∧ w < nF N ∧ x < nL N w ∧ P (nN N w x) ∧ laOf N co w x = -9
theorem N_excl {N : NT} {ρ : Nat → Nat} (hr : rnk N ρ) {co : Nat → Nat → Nat → Int32} (h1 : NOk N co) (h2 : NBad N) : False := by
  obtain ⟨co2, P, w, x, hd, hc, hw, hx, hp, hl⟩ := h2
  have h3 : CE N co P := fun w x hw hx _ => h1.1 w x hw hx trivial
  have := (CE_la hr hd h3 hc hw hx hp).1
  exact h1.2 w x hw hx (this.trans hl)
