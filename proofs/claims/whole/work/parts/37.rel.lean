/-! the relation that every call keeps -/
def wfN (N : NT) : Prop := nF N ≤ 5 ∧ nR N < 3 ∧ ∀ w, w < nF N → 1 ≤ nL N w ∧ nL N w ≤ 4 ∧ (∀ x, x < nL N w → nN N w x < 6) ∧ (∀ x y, x < y → y < nL N w → nN N w x ≠ nN N w y) ∧ okRow (nO N w)
def netC (c : Hp) (N : NT) (n : Nat) : Prop := c 2 5 = nI (nF N) ∧ c 2 6 = nI (nR N) ∧ (∀ w, w < nF N → (∃ f, f < n ∧ c 12 w = nI f ∧ req (c (100 + f)) (nO N w)) ∧ req (c (150 + 5 * w)) (nO N w) ∧ c 13 w = nI (nL N w) ∧ ∀ x, x < nL N w → c (140 + w) x = nI (nN N w x)) ∧ ∀ v, v < 6 → c 10 v = -9 ∨ ∃ f, f < n ∧ c 10 v = nI f ∧ req (c (100 + f)) (nS N v) ∧ req (c (130 + v)) (nS N v)
def netM (m : Hp) (N : NT) (n : Nat) : Prop := m 300 12 = nI (nF N) ∧ m 300 16 = nI (nR N) ∧ (∀ w, w < nF N → (∃ f, f < n ∧ m 313 w = nI f ∧ req (mr m f) (nO N w)) ∧ m 314 w = nI (nL N w) ∧ ∀ x, x < nL N w → m 315 (4 * w + x) = nI (nN N w x)) ∧ ∀ v, v < 6 → m 311 v = -9 ∨ ∃ f, f < n ∧ m 311 v = nI f ∧ req (mr m f) (nS N v)
def coC (c : Hp) : Nat → Nat → Nat → Int32 := fun w x => c (150 + (5 * w + x))
def unserved (c : Hp) (N : NT) : Prop := ∃ w x, w < nF N ∧ x < nL N w ∧ c 10 (nN N w x) = -9
def fullC (c : Hp) (N : NT) : Prop := (∃ ρ, rnk N ρ) ∧ ¬ unserved c N ∧ NOk N (coC c) ∧ ∀ w x, w < nF N → x < nL N w → req (c (180 + (4 * w + x))) (haOf N (coC c) w x) ∧ c 17 (4 * w + x) = laOf N (coC c) w x ∧ req (c (150 + (5 * w + (x + 1)))) (goOf N (coC c) w x)
def noneC (c : Hp) (N : NT) : Prop := (¬ ∃ ρ, rnk N ρ) ∨ unserved c N ∨ ((∃ ρ, rnk N ρ) ∧ NBad N)
def freshC (c : Hp) (N : NT) : Prop := c 2 14 = 0 ∨ (c 2 14 = 1 ∧ ((c 2 15 = 0 ∧ noneC c N) ∨ (c 2 15 = 1 ∧ fullC c N)))
def RNt (c m : Hp) (n : Nat) : Prop := ∃ N, wfN N ∧ netC c N n ∧ netM m N n ∧ (∀ w, w < nF N → c 12 w = m 313 w) ∧ (∀ v, v < 6 → c 10 v = m 311 v) ∧ freshC c N
def Rel0 (c m : Hp) (n : Nat) : Prop := RSt c m n ∧ RSh c m ∧ RSe c m ∧ RNt c m n
def Rel (c m : Hp) : Prop := (∃ n, Rel0 c m n) ∧ c 0 7 = m 300 24 ∧ c 0 8 = m 300 0
/-! what no answer depends on -/
def sC (b j : Nat) : Prop := b = 5 ∨ b = 6 ∨ b = 7 ∨ b = 18 ∨ b = 19 ∨ b = 20 ∨ b = 21 ∨ b = 23 ∨ b = 27 ∨ b = 28 ∨ b = 29 ∨ (b = 0 ∧ (j = 7 ∨ j = 8))
def sM (b j : Nat) : Prop := (b = 300 ∧ (j = 0 ∨ j = 24 ∨ j = 4 ∨ j = 5 ∨ j = 6 ∨ j = 10)) ∨ b = 307 ∨ b = 308 ∨ b = 309 ∨ b = 317 ∨ b = 318 ∨ b = 323 ∨ (b = 303 ∧ 984 ≤ j ∧ ¬ (3608 ≤ j ∧ j < 3649))
def eqC (c d : Hp) : Prop := ∀ b j, ¬ sC b j → d b j = c b j
def eqM (c d : Hp) : Prop := ∀ b j, ¬ sM b j → d b j = c b j
theorem eqC.r {c : Hp} : eqC c c := fun _ _ _ => rfl
theorem eqM.r {c : Hp} : eqM c c := fun _ _ _ => rfl
theorem eqC.t {c d e : Hp} (h : eqC c d) (h2 : eqC d e) : eqC c e := fun b j hn => (h2 b j hn).trans (h b j hn)
theorem eqM.t {c d e : Hp} (h : eqM c d) (h2 : eqM d e) : eqM c e := fun b j hn => (h2 b j hn).trans (h b j hn)
theorem eqC.up {c : Hp} {b j : Nat} {x : Int32} (h : sC b j) : eqC c (up2 c b j x) := fun a i hn => up2_o (by
  by_cases e : a = b
  · by_cases e2 : i = j
    · rw [e, e2] at hn; exact absurd h hn
    · exact Or.inr e2
  · exact Or.inl e)
theorem eqM.up {c : Hp} {b j : Nat} {x : Int32} (h : sM b j) : eqM c (up2 c b j x) := fun a i hn => up2_o (by
  by_cases e : a = b
  · by_cases e2 : i = j
    · rw [e, e2] at hn; exact absurd h hn
    · exact Or.inr e2
  · exact Or.inl e)
theorem eqC.fil {c : Hp} {b : Nat} {F : Nat → Int32} {t : Nat} (h : ∀ j, sC b j) : eqC c (fil c b F t) := fun a i hn => fil_out (Or.inl (fun e => hn (by rw [e]; exact h i)))
theorem eqC.upC {c : Hp} {b : Nat} {g : Nat → Int32} (h : ∀ j, sC b j) : eqC c (upC c b g) := fun a i hn => by
  unfold _root_.Jvm.Pilot.@@N@@.upC
  rw [if_neg (fun e => hn (by rw [e]; exact h i))]
theorem eqM.filM {c : Hp} {f : Nat} {F : Nat → Int32} {t : Nat} (h1 : 24 ≤ f) (h2 : f ≠ 88) (ht : t ≤ 41) : eqM c (filM c f F t) := fun a i hn => by
  unfold _root_.Jvm.Pilot.@@N@@.filM
  rw [if_neg]
  rintro ⟨e1, e2, e3⟩
  refine hn ?_
  unfold sM
  omega
theorem RSt_keep {c d m k : Hp} {n : Nat} (hc : eqC c d) (hm : eqM m k) (h : RSt c m n) : RSt d k n := by
  obtain ⟨h1, h2, h3, h4⟩ := h
  refine ⟨h1, by rw [hc 1 2 (by unfold sC; omega)]; exact h2, by rw [hm 300 1 (by unfold sM; omega)]; exact h3, fun f hf => ?_⟩
  obtain ⟨g1, g2, k0, g3, g4, g5⟩ := h4 f hf
  have e : d (100 + f) = c (100 + f) := funext fun j => hc _ _ (by unfold sC; omega)
  refine ⟨by rw [e]; exact g1, fun t ht => ?_, k0, g3, by rw [hc 9 f (by unfold sC; omega)]; exact g4, by rw [hm 302 f (by unfold sM; omega)]; exact g5⟩
  rw [e, ← g2 t ht]
  exact hm _ _ (by unfold sM; omega)
theorem RSh_keep {c d m k : Hp} (hc : eqC c d) (hm : eqM m k) (h : RSh c m) : RSh d k := by
  intro q hq
  obtain ⟨h1, h2⟩ := h q hq
  refine ⟨?_, by rw [hc 26 q (by unfold sC; omega), hm 321 q (by unfold sM; omega)]; exact h2⟩
  rw [hc 25 q (by unfold sC; omega), hm 320 q (by unfold sM; omega)]
  rcases h1 with h1 | ⟨n, g1, g2, g3, g4⟩
  · exact Or.inl h1
  · refine Or.inr ⟨n, g1, g2, g3, fun i hi => ?_⟩
    rw [hc (210 + q) i (by unfold sC; omega), hm 322 (60 * q + i) (by unfold sM; omega)]
    exact g4 i hi
theorem RSe_keep {c d m k : Hp} (hc : eqC c d) (hm : eqM m k) (h : RSe c m) : RSe d k := by
  obtain ⟨q, h1, h2, h3, h4, h5, h6⟩ := h
  have e : d 22 = c 22 := funext fun j => hc _ _ (by unfold sC; omega)
  refine ⟨q, h1, by rw [hc 3 2 (by unfold sC; omega)]; exact h2, by rw [hm 300 19 (by unfold sM; omega)]; exact h3, fun t ht => ?_, by rw [e]; exact h5, by rw [e]; exact h6⟩
  rw [e, ← h4 t ht]
  exact hm _ _ (by unfold sM; omega)
theorem netC_keep {c d : Hp} {N : NT} {n : Nat} (hn : n ≤ 24) (hf5 : nF N ≤ 5) (hc : eqC c d) (h : netC c N n) : netC d N n := by
  obtain ⟨h1, h2, h3, h4⟩ := h
  refine ⟨by rw [hc 2 5 (by unfold sC; omega)]; exact h1, by rw [hc 2 6 (by unfold sC; omega)]; exact h2, fun w hw => ?_, fun v hv => ?_⟩
  · obtain ⟨⟨f, g1, g2, g3⟩, g4, g5, g6⟩ := h3 w hw
    have e : d (100 + f) = c (100 + f) := funext fun j => hc _ _ (by unfold sC; omega)
    have e2 : d (150 + 5 * w) = c (150 + 5 * w) := funext fun j => hc _ _ (by unfold sC; omega)
    refine ⟨⟨f, g1, by rw [hc 12 w (by unfold sC; omega)]; exact g2, by rw [e]; exact g3⟩, by rw [e2]; exact g4, by rw [hc 13 w (by unfold sC; omega)]; exact g5, fun x hx => by rw [hc (140 + w) x (by unfold sC; omega)]; exact g6 x hx⟩
  · rw [hc 10 v (by unfold sC; omega)]
    rcases h4 v hv with h5 | ⟨f, g1, g2, g3, g4⟩
    · exact Or.inl h5
    · have e : d (100 + f) = c (100 + f) := funext fun j => hc _ _ (by unfold sC; omega)
      have e2 : d (130 + v) = c (130 + v) := funext fun j => hc _ _ (by unfold sC; omega)
      exact Or.inr ⟨f, g1, g2, by rw [e]; exact g3, by rw [e2]; exact g4⟩
theorem netM_keep {m k : Hp} {N : NT} {n : Nat} (hn : n ≤ 24) (hf5 : nF N ≤ 5) (hm : eqM m k) (h : netM m N n) : netM k N n := by
  obtain ⟨h1, h2, h3, h4⟩ := h
  have er : ∀ f, f < n → ∀ t, t < 41 → mr k f t = mr m f t := fun f hf t ht => hm _ _ (by unfold sM; omega)
  refine ⟨by rw [hm 300 12 (by unfold sM; omega)]; exact h1, by rw [hm 300 16 (by unfold sM; omega)]; exact h2, fun w hw => ?_, fun v hv => ?_⟩
  · obtain ⟨⟨f, g1, g2, g3⟩, g5, g6⟩ := h3 w hw
    exact ⟨⟨f, g1, by rw [hm 313 w (by unfold sM; omega)]; exact g2, fun t ht => (er f g1 t ht).trans (g3 t ht)⟩, by rw [hm 314 w (by unfold sM; omega)]; exact g5, fun x hx => by rw [hm 315 (4 * w + x) (by unfold sM; omega)]; exact g6 x hx⟩
  · rw [hm 311 v (by unfold sM; omega)]
    rcases h4 v hv with h5 | ⟨f, g1, g2, g3⟩
    · exact Or.inl h5
    · exact Or.inr ⟨f, g1, g2, fun t ht => (er f g1 t ht).trans (g3 t ht)⟩
theorem coC_keep {c d : Hp} (hc : eqC c d) : coC d = coC c := funext fun w => funext fun x => funext fun j => hc _ _ (by unfold sC; omega)
theorem uns_keep {c d : Hp} {N : NT} (hc : eqC c d) (h : unserved c N) : unserved d N := by
  obtain ⟨w, x, h1, h2, h3⟩ := h
  exact ⟨w, x, h1, h2, by rw [hc 10 _ (by unfold sC; omega)]; exact h3⟩
theorem eqC.s {c d : Hp} (h : eqC c d) : eqC d c := fun b j hn => (h b j hn).symm
theorem freshC_keep {c d : Hp} {N : NT} (hc : eqC c d) (h : freshC c N) : freshC d N := by
  unfold freshC at h ⊢
  rw [hc 2 14 (by unfold sC; omega), hc 2 15 (by unfold sC; omega)]
  rcases h with h | ⟨h1, ⟨h2, h3⟩ | ⟨h2, h3⟩⟩
  · exact Or.inl h
  · refine Or.inr ⟨h1, Or.inl ⟨h2, ?_⟩⟩
    rcases h3 with h3 | h3 | h3
    · exact Or.inl h3
    · exact Or.inr (Or.inl (uns_keep hc h3))
    · exact Or.inr (Or.inr h3)
  · refine Or.inr ⟨h1, Or.inr ⟨h2, ?_⟩⟩
    obtain ⟨g1, g2, g3, g4⟩ := h3
    refine ⟨g1, fun h => g2 (uns_keep hc.s h), by rw [coC_keep hc]; exact g3, fun w x hw hx => ?_⟩
    obtain ⟨k1, k2, k3⟩ := g4 w x hw hx
    have e1 : d (180 + (4 * w + x)) = c (180 + (4 * w + x)) := funext fun j => hc _ _ (by unfold sC; omega)
    have e2 : d (150 + (5 * w + (x + 1))) = c (150 + (5 * w + (x + 1))) := funext fun j => hc _ _ (by unfold sC; omega)
    rw [coC_keep hc, e1, e2, hc 17 _ (by unfold sC; omega)]
    exact ⟨k1, k2, k3⟩
theorem Rel0_keep {c d m k : Hp} {n : Nat} (hc : eqC c d) (hm : eqM m k) (h : Rel0 c m n) : Rel0 d k n := by
  obtain ⟨h1, h2, h3, N, g1, g2, g3, g4, g5, g6⟩ := h
  refine ⟨RSt_keep hc hm h1, RSh_keep hc hm h2, RSe_keep hc hm h3, N, g1, netC_keep h1.1 g1.1 hc g2, netM_keep h1.1 g1.1 hm g3, fun w hw => ?_, fun v hv => ?_, freshC_keep hc g6⟩
  · rw [hc 12 w (by unfold sC; omega), hm 313 w (by unfold sM; omega)]; exact g4 w hw
  · rw [hc 10 v (by unfold sC; omega), hm 311 v (by unfold sM; omega)]; exact g5 v hv
/-- a call's end where both sides tell the same fault -/
theorem Rel_end {c d m k : Hp} {n : Nat} (hc : eqC c d) (hm : eqM m k) (h : Rel0 c m n) (ht : d 0 7 = k 300 24) (hf : d 0 8 = k 300 0) : Rel d k := ⟨⟨n, Rel0_keep hc hm h⟩, ht, hf⟩
/-- both sides get the same new stair -/
theorem Rel0_new {c m : Hp} {n k0 : Nat} {F : Nat → Int32} (hn : n < 24) (hk : k0 < 3) (hF : okRow F) (h : Rel0 c m n) : Rel0 (up2 (up2 (fil c (100 + n) F 41) 9 n (nI k0)) 1 2 (nI (n + 1))) (up2 (up2 (filM m n F 41) 302 n (nI k0)) 300 1 (nI (n + 1))) (n + 1) := by
  generalize hd : up2 (up2 (fil c (100 + n) F 41) 9 n (nI k0)) 1 2 (nI (n + 1)) = d
  generalize hk2 : up2 (up2 (filM m n F 41) 302 n (nI k0)) 300 1 (nI (n + 1)) = k
  have ec : ∀ b j, ¬ (b = 100 + n ∨ (b = 9 ∧ j = n) ∨ (b = 1 ∧ j = 2)) → d b j = c b j := fun b j hb => by
    rw [← hd, up2_o (by omega), up2_o (by omega), fil_out (by omega)]
  have em : ∀ b j, ¬ ((b = 303 ∧ 41 * n ≤ j ∧ j < 41 * n + 41) ∨ (b = 302 ∧ j = n) ∨ (b = 300 ∧ j = 1)) → k b j = m b j := fun b j hb => by
    rw [← hk2, up2_o (by omega), up2_o (by omega)]
    unfold filM
    rw [if_neg (by omega)]
  have edr : ∀ f, f < n → d (100 + f) = c (100 + f) := fun f hf => funext fun j => ec _ _ (by omega)
  have ekr : ∀ f, f ≠ n → ∀ t, t < 41 → mr k f t = mr m f t := fun f hf t ht => em _ _ (by omega)
  have edn : ∀ t, t < 41 → d (100 + n) t = F t := fun t ht => by
    rw [← hd, up2_o (by omega), up2_o (by omega), fil_in ht]
  have ekn : ∀ t, t < 41 → mr k n t = F t := fun t ht => by
    have := filM_in (sg := m) (f := n) (F := F) (n := 41) ht (Nat.le_refl _) ht
    rw [← this]
    unfold mr
    rw [← hk2, up2_o (by omega), up2_o (by omega)]
  obtain ⟨⟨h1, h2, h3, h4⟩, h5, h6, N, g1, ⟨a1, a2, a3, a4⟩, ⟨b1, b2, b3, b4⟩, g4, g5, g6⟩ := h
  have hF5 := g1.1
  refine ⟨⟨by omega, by rw [← hd, up2_s], by rw [← hk2, up2_s], fun f hf => ?_⟩, ?_, ?_, N, g1, ⟨?_, ?_, ?_, ?_⟩, ⟨?_, ?_, ?_, ?_⟩, ?_, ?_, ?_⟩
  · by_cases e : f = n
    · subst e
      refine ⟨okRow_req (fun t ht => (edn t ht).symm) hF, fun t ht => (ekn t ht).trans (edn t ht).symm, k0, hk, ?_, ?_⟩
      · rw [← hd, up2_o (by omega), up2_s]
      · rw [← hk2, up2_o (by omega), up2_s]
    · obtain ⟨q1, q2, k1, q3, q4, q5⟩ := h4 f (by omega)
      refine ⟨by rw [edr f (by omega)]; exact q1, fun t ht => by rw [ekr f e t ht, edr f (by omega)]; exact q2 t ht, k1, q3, ?_, ?_⟩
      · rw [ec 9 f (by omega)]; exact q4
      · rw [em 302 f (by omega)]; exact q5
  · intro q hq
    obtain ⟨q1, q2⟩ := h5 q hq
    rw [ec 25 q (by omega), em 320 q (by omega), ec 26 q (by omega), em 321 q (by omega)]
    refine ⟨?_, q2⟩
    rcases q1 with q1 | ⟨z, y1, y2, y3, y4⟩
    · exact Or.inl q1
    · refine Or.inr ⟨z, y1, y2, y3, fun i hi => ?_⟩
      rw [ec (210 + q) i (by omega), em 322 (60 * q + i) (by omega)]
      exact y4 i hi
  · obtain ⟨q, y1, y2, y3, y4, y5, y6⟩ := h6
    have e22 : d 22 = c 22 := funext fun j => ec _ _ (by omega)
    exact ⟨q, y1, by rw [ec 3 2 (by omega)]; exact y2, by rw [em 300 19 (by omega)]; exact y3, fun t ht => by rw [ekr 88 (by omega) t ht, e22]; exact y4 t ht, by rw [e22]; exact y5, by rw [e22]; exact y6⟩
  · rw [ec 2 5 (by omega)]; exact a1
  · rw [ec 2 6 (by omega)]; exact a2
  · intro w hw
    obtain ⟨⟨f, y1, y2, y3⟩, y4, y5, y6⟩ := a3 w hw
    have e2 : d (150 + 5 * w) = c (150 + 5 * w) := funext fun j => ec _ _ (by omega)
    exact ⟨⟨f, by omega, by rw [ec 12 w (by omega)]; exact y2, by rw [edr f y1]; exact y3⟩, by rw [e2]; exact y4, by rw [ec 13 w (by omega)]; exact y5, fun x hx => by rw [ec (140 + w) x (by omega)]; exact y6 x hx⟩
  · intro v hv
    rw [ec 10 v (by omega)]
    rcases a4 v hv with y | ⟨f, y1, y2, y3, y4⟩
    · exact Or.inl y
    · have e2 : d (130 + v) = c (130 + v) := funext fun j => ec _ _ (by omega)
      exact Or.inr ⟨f, by omega, y2, by rw [edr f y1]; exact y3, by rw [e2]; exact y4⟩
  · rw [em 300 12 (by omega)]; exact b1
  · rw [em 300 16 (by omega)]; exact b2
  · intro w hw
    obtain ⟨⟨f, y1, y2, y3⟩, y5, y6⟩ := b3 w hw
    exact ⟨⟨f, by omega, by rw [em 313 w (by omega)]; exact y2, fun t ht => (ekr f (by omega) t ht).trans (y3 t ht)⟩, by rw [em 314 w (by omega)]; exact y5, fun x hx => by rw [em 315 (4 * w + x) (by omega)]; exact y6 x hx⟩
  · intro v hv
    rw [em 311 v (by omega)]
    rcases b4 v hv with y | ⟨f, y1, y2, y3⟩
    · exact Or.inl y
    · exact Or.inr ⟨f, by omega, y2, fun t ht => (ekr f (by omega) t ht).trans (y3 t ht)⟩
  · intro w hw
    rw [ec 12 w (by omega), em 313 w (by omega)]; exact g4 w hw
  · intro v hv
    rw [ec 10 v (by omega), em 311 v (by omega)]; exact g5 v hv
  · have eco : coC d = coC c := funext fun w => funext fun x => funext fun j => ec _ _ (by omega)
    unfold freshC noneC fullC unserved at g6 ⊢
    rw [ec 2 14 (by omega), ec 2 15 (by omega), eco]
    rcases g6 with y | ⟨y1, ⟨y2, y3⟩ | ⟨y2, y3⟩⟩
    · exact Or.inl y
    · refine Or.inr ⟨y1, Or.inl ⟨y2, ?_⟩⟩
      rcases y3 with y3 | ⟨w, x, z1, z2, z3⟩ | y3
      · exact Or.inl y3
      · exact Or.inr (Or.inl ⟨w, x, z1, z2, by rw [ec 10 _ (by omega)]; exact z3⟩)
      · exact Or.inr (Or.inr y3)
    · refine Or.inr ⟨y1, Or.inr ⟨y2, ?_⟩⟩
      obtain ⟨z1, z2, z3, z4⟩ := y3
      refine ⟨z1, fun ⟨w, x, u1, u2, u3⟩ => z2 ⟨w, x, u1, u2, by rw [ec 10 _ (by omega)] at u3; exact u3⟩, z3, fun w x hw hx => ?_⟩
      obtain ⟨k1, k2, k3⟩ := z4 w x hw hx
      have e1 : d (180 + (4 * w + x)) = c (180 + (4 * w + x)) := funext fun j => ec _ _ (by omega)
      have e2 : d (150 + (5 * w + (x + 1))) = c (150 + (5 * w + (x + 1))) := funext fun j => ec _ _ (by omega)
      rw [e1, e2, ec 17 _ (by omega)]
      exact ⟨k1, k2, k3⟩
