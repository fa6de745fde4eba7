/-! each part of the relation, by the cells that it reads -/
def uSt (b : Nat) : Prop := b = 1 ∨ b = 9 ∨ (100 ≤ b ∧ b < 124)
def vSt (b j : Nat) : Prop := (b = 300 ∧ j = 1) ∨ b = 302 ∨ (b = 303 ∧ j < 984)
def uSh (b : Nat) : Prop := b = 25 ∨ b = 26 ∨ (210 ≤ b ∧ b < 214)
def vSh (b j : Nat) : Prop := b = 320 ∨ b = 321 ∨ b = 322
def uSe (b : Nat) : Prop := b = 3 ∨ b = 22
def vSe (b j : Nat) : Prop := (b = 300 ∧ j = 19) ∨ (b = 303 ∧ 3608 ≤ j ∧ j < 3649)
def uNt (b : Nat) : Prop := b = 2 ∨ b = 10 ∨ b = 12 ∨ b = 13 ∨ b = 17 ∨ (100 ≤ b ∧ b < 124) ∨ (130 ≤ b ∧ b < 200)
def vNt (b j : Nat) : Prop := (b = 300 ∧ (j = 12 ∨ j = 16)) ∨ b = 311 ∨ b = 313 ∨ b = 314 ∨ b = 315 ∨ (b = 303 ∧ j < 984)
theorem RSt_cg {c d m k : Hp} {n : Nat} (hc : ∀ b j, uSt b → d b j = c b j) (hm : ∀ b j, vSt b j → k b j = m b j) (h : RSt c m n) : RSt d k n := by
  obtain ⟨h1, h2, h3, h4⟩ := h
  refine ⟨h1, by rw [hc 1 2 (by unfold uSt; omega)]; exact h2, by rw [hm 300 1 (by unfold vSt; omega)]; exact h3, fun f hf => ?_⟩
  obtain ⟨g1, g2, k0, g3, g4, g5⟩ := h4 f hf
  have e : d (100 + f) = c (100 + f) := funext fun j => hc _ _ (by unfold uSt; omega)
  refine ⟨by rw [e]; exact g1, fun t ht => ?_, k0, g3, by rw [hc 9 f (by unfold uSt; omega)]; exact g4, by rw [hm 302 f (by unfold vSt; omega)]; exact g5⟩
  rw [e, ← g2 t ht]
  exact hm _ _ (by unfold vSt; omega)
theorem RSh_cg {c d m k : Hp} (hc : ∀ b j, uSh b → d b j = c b j) (hm : ∀ b j, vSh b j → k b j = m b j) (h : RSh c m) : RSh d k := by
  intro q hq
  obtain ⟨h1, h2⟩ := h q hq
  refine ⟨?_, by rw [hc 26 q (by unfold uSh; omega), hm 321 q (by unfold vSh; omega)]; exact h2⟩
  rw [hc 25 q (by unfold uSh; omega), hm 320 q (by unfold vSh; omega)]
  rcases h1 with h1 | ⟨n, g1, g2, g3, g4⟩
  · exact Or.inl h1
  · refine Or.inr ⟨n, g1, g2, g3, fun i hi => ?_⟩
    rw [hc (210 + q) i (by unfold uSh; omega), hm 322 (60 * q + i) (by unfold vSh; omega)]
    exact g4 i hi
theorem RSe_cg {c d m k : Hp} (hc : ∀ b j, uSe b → d b j = c b j) (hm : ∀ b j, vSe b j → k b j = m b j) (h : RSe c m) : RSe d k := by
  obtain ⟨q, h1, h2, h3, h4, h5, h6⟩ := h
  have e : d 22 = c 22 := funext fun j => hc _ _ (by unfold uSe; omega)
  refine ⟨q, h1, by rw [hc 3 2 (by unfold uSe; omega)]; exact h2, by rw [hm 300 19 (by unfold vSe; omega)]; exact h3, fun t ht => ?_, by rw [e]; exact h5, by rw [e]; exact h6⟩
  rw [e, ← h4 t ht]
  exact hm _ _ (by unfold vSe; omega)
theorem netC_cg {c d : Hp} {N : NT} {n : Nat} (hn : n ≤ 24) (hf5 : nF N ≤ 5) (hc : ∀ b j, uNt b → d b j = c b j) (h : netC c N n) : netC d N n := by
  obtain ⟨h1, h2, h3, h4⟩ := h
  refine ⟨by rw [hc 2 5 (by unfold uNt; omega)]; exact h1, by rw [hc 2 6 (by unfold uNt; omega)]; exact h2, fun w hw => ?_, fun v hv => ?_⟩
  · obtain ⟨⟨f, g1, g2, g3⟩, g4, g5, g6⟩ := h3 w hw
    have e : d (100 + f) = c (100 + f) := funext fun j => hc _ _ (by unfold uNt; omega)
    have e2 : d (150 + 5 * w) = c (150 + 5 * w) := funext fun j => hc _ _ (by unfold uNt; omega)
    refine ⟨⟨f, g1, by rw [hc 12 w (by unfold uNt; omega)]; exact g2, by rw [e]; exact g3⟩, by rw [e2]; exact g4, by rw [hc 13 w (by unfold uNt; omega)]; exact g5, fun x hx => by rw [hc (140 + w) x (by unfold uNt; omega)]; exact g6 x hx⟩
  · rw [hc 10 v (by unfold uNt; omega)]
    rcases h4 v hv with h5 | ⟨f, g1, g2, g3, g4⟩
    · exact Or.inl h5
    · have e : d (100 + f) = c (100 + f) := funext fun j => hc _ _ (by unfold uNt; omega)
      have e2 : d (130 + v) = c (130 + v) := funext fun j => hc _ _ (by unfold uNt; omega)
      exact Or.inr ⟨f, g1, g2, by rw [e]; exact g3, by rw [e2]; exact g4⟩
theorem netM_cg {m k : Hp} {N : NT} {n : Nat} (hn : n ≤ 24) (hf5 : nF N ≤ 5) (hm : ∀ b j, vNt b j → k b j = m b j) (h : netM m N n) : netM k N n := by
  obtain ⟨h1, h2, h3, h4⟩ := h
  have er : ∀ f, f < n → ∀ t, t < 41 → mr k f t = mr m f t := fun f hf t ht => hm _ _ (by unfold vNt; omega)
  refine ⟨by rw [hm 300 12 (by unfold vNt; omega)]; exact h1, by rw [hm 300 16 (by unfold vNt; omega)]; exact h2, fun w hw => ?_, fun v hv => ?_⟩
  · obtain ⟨⟨f, g1, g2, g3⟩, g5, g6⟩ := h3 w hw
    exact ⟨⟨f, g1, by rw [hm 313 w (by unfold vNt; omega)]; exact g2, fun t ht => (er f g1 t ht).trans (g3 t ht)⟩, by rw [hm 314 w (by unfold vNt; omega)]; exact g5, fun x hx => by rw [hm 315 (4 * w + x) (by unfold vNt; omega)]; exact g6 x hx⟩
  · rw [hm 311 v (by unfold vNt; omega)]
    rcases h4 v hv with h5 | ⟨f, g1, g2, g3⟩
    · exact Or.inl h5
    · exact Or.inr ⟨f, g1, g2, fun t ht => (er f g1 t ht).trans (g3 t ht)⟩
theorem uns_cg {c d : Hp} {N : NT} (hc : ∀ b j, uNt b → d b j = c b j) (h : unserved c N) : unserved d N := by
  obtain ⟨w, x, h1, h2, h3⟩ := h
  exact ⟨w, x, h1, h2, by rw [hc 10 _ (by unfold uNt; omega)]; exact h3⟩
theorem fresh_cg {c d : Hp} {N : NT} (hN : wfN N) (hc : ∀ b j, uNt b → d b j = c b j) (h : freshC c N) : freshC d N := by
  have hs : ∀ b j, uNt b → c b j = d b j := fun b j hb => (hc b j hb).symm
  have hF5 := hN.1
  have hag : ∀ w x, w < nF N → x < nL N w → (coC d) w x = (coC c) w x := fun w x hw hx => funext fun j => hc _ _ (by
    have := hN.2.2 w hw
    unfold uNt
    omega)
  have ag : ∀ v, agr N (coC c) (coC d) v := fun v w x hw hx _ t ht => by rw [hag w x hw hx]
  unfold freshC at h ⊢
  rw [hc 2 14 (by unfold uNt; omega), hc 2 15 (by unfold uNt; omega)]
  rcases h with h | ⟨h1, ⟨h2, h3⟩ | ⟨h2, h3⟩⟩
  · exact Or.inl h
  · refine Or.inr ⟨h1, Or.inl ⟨h2, ?_⟩⟩
    rcases h3 with h3 | h3 | h3
    · exact Or.inl h3
    · exact Or.inr (Or.inl (uns_cg hc h3))
    · exact Or.inr (Or.inr h3)
  · refine Or.inr ⟨h1, Or.inr ⟨h2, ?_⟩⟩
    obtain ⟨g1, g2, g3, g4⟩ := h3
    refine ⟨g1, fun h => g2 (uns_cg hs h), ⟨fun w x hw hx _ => ?_, fun w x hw hx => ?_⟩, fun w x hw hx => ?_⟩
    · have := g3.1 w x hw hx trivial
      rw [hag w x hw hx]
      by_cases e : x = 0
      · rw [if_pos e] at this ⊢; exact this
      · rw [if_neg e] at this ⊢
        exact this.trans (goOf_cong hw (by omega) (ag _))
    · rw [← laOf_cong hw hx (ag _)]; exact g3.2 w x hw hx
    · obtain ⟨k1, k2, k3⟩ := g4 w x hw hx
      have hl := hN.2.2 w hw
      have e1 : d (180 + (4 * w + x)) = c (180 + (4 * w + x)) := funext fun j => hc _ _ (by unfold uNt; omega)
      have e2 : d (150 + (5 * w + (x + 1))) = c (150 + (5 * w + (x + 1))) := funext fun j => hc _ _ (by unfold uNt; omega)
      rw [e1, e2, hc 17 _ (by unfold uNt; omega), ← laOf_cong hw hx (ag _)]
      exact ⟨k1.trans (haOf_cong hw (ag _)), k2, k3.trans (goOf_cong hw hx (ag _))⟩
theorem RNt_cg {c d m k : Hp} {n : Nat} (hn : n ≤ 24) (hc : ∀ b j, uNt b → d b j = c b j) (hm : ∀ b j, vNt b j → k b j = m b j) (h : RNt c m n) : RNt d k n := by
  obtain ⟨N, g1, g2, g3, g4, g5, g6⟩ := h
  have hF5 := g1.1
  refine ⟨N, g1, netC_cg hn g1.1 hc g2, netM_cg hn g1.1 hm g3, fun w hw => ?_, fun v hv => ?_, fresh_cg g1 hc g6⟩
  · rw [hc 12 w (by unfold uNt; omega), hm 313 w (by unfold vNt; omega)]; exact g4 w hw
  · rw [hc 10 v (by unfold uNt; omega), hm 311 v (by unfold vNt; omega)]; exact g5 v hv
