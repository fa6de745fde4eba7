/-! worlds by what is in their tables -/
theorem wld_P {cI cQ : ClassId} {ad : Nat → Nat} {tb : Sd} {sg : Hp} {D : va_G} {H : Heap} : va_P D vwCl (wld cI cQ ad tb sg) H ↔ ∀ q, q ∈ tb → va_at D vwCl (ad q.1, cel cI cQ ad q.2 (sg q.1)) H := by
  constructor
  · intro h q hq
    obtain ⟨k, hk⟩ := List.getElem?_of_mem hq
    exact h k _ (wld_at hk)
  · intro h k x hx
    unfold wld at hx
    rw [List.getElem?_map] at hx
    cases hq : tb[k]? with
    | none => rw [hq] at hx; cases hx
    | some q =>
      rw [hq] at hx
      cases hx
      exact h q (List.mem_of_getElem? hq)
def kys (tb : Sd) : List Nat := tb.map (fun q => q.1)
theorem wld_fst {cI cQ : ClassId} {ad : Nat → Nat} {tb : Sd} {sg : Hp} {k : Nat} {x : Nat × va_E} (h : (wld cI cQ ad tb sg)[k]? = some x) : ∃ q, tb[k]? = some q ∧ x.1 = ad q.1 := by
  unfold wld at h
  rw [List.getElem?_map] at h
  cases hq : tb[k]? with
  | none => rw [hq] at h; cases h
  | some q =>
    rw [hq] at h
    cases h
    exact ⟨q, rfl, rfl⟩
def adI (ad : Nat → Nat) (tb : Sd) : Prop := ∀ q r, q ∈ tb → r ∈ tb → ad q.1 = ad r.1 → q.1 = r.1
theorem wld_D {cI cQ : ClassId} {ad : Nat → Nat} {tb : Sd} {sg : Hp} {A : Nat → Prop} (hn : (kys tb).Nodup) : va_D A (wld cI cQ ad tb sg) ↔ adI ad tb ∧ ∀ q, q ∈ tb → A (ad q.1) := by
  constructor
  · intro h
    refine ⟨fun q r hq hr e => ?_, fun q hq => ?_⟩
    · obtain ⟨i, hi⟩ := List.getElem?_of_mem hq
      obtain ⟨j, hj⟩ := List.getElem?_of_mem hr
      have := h.1 i j _ _ (wld_at (cI := cI) (cQ := cQ) (ad := ad) (sg := sg) hi) (wld_at hj) e
      subst this
      rw [hi] at hj
      cases hj
      rfl
    · obtain ⟨i, hi⟩ := List.getElem?_of_mem hq
      exact h.2 i _ (wld_at (cI := cI) (cQ := cQ) (ad := ad) (sg := sg) hi)
  · rintro ⟨h1, h2⟩
    refine ⟨fun i j x y hi hj e => ?_, fun k x hx => ?_⟩
    · obtain ⟨q, hq, eq⟩ := wld_fst hi
      obtain ⟨r, hr, er⟩ := wld_fst hj
      have e2 := h1 q r (List.mem_of_getElem? hq) (List.mem_of_getElem? hr) (by rw [← eq, ← er]; exact e)
      have a1 : (kys tb)[i]? = some q.1 := by unfold kys; rw [List.getElem?_map, hq]; rfl
      have a2 : (kys tb)[j]? = some q.1 := by unfold kys; rw [List.getElem?_map, hr, e2]; rfl
      have li := (List.getElem?_eq_some_iff.mp a1).1
      exact (List.getElem?_inj li hn).mp (a1.trans a2.symm)
    · obtain ⟨q, hq, eq⟩ := wld_fst hx
      rw [eq]
      exact h2 q (List.mem_of_getElem? hq)
def mix (t1 : Sd) (sg2 sg : Hp) : Hp := fun b => if b ∈ kys t1 then sg2 b else sg b
theorem mix_in {t1 : Sd} {sg2 sg : Hp} {b : Nat} (h : b ∈ kys t1) : mix t1 sg2 sg b = sg2 b := if_pos h
theorem mix_out {t1 : Sd} {sg2 sg : Hp} {b : Nat} (h : b ∉ kys t1) : mix t1 sg2 sg b = sg b := if_neg h
theorem kys_in {tb : Sd} {q : Nat × Shp} (h : q ∈ tb) : q.1 ∈ kys tb := List.mem_map.mpr ⟨q, h, rfl⟩
/-- behind a call over a part of the table -/
theorem wld_join {cI cQ : ClassId} {ad : Nat → Nat} {tb t1 : Sd} {sg sg2 : Hp} {D : va_G} {A : Nat → Prop} {H H1 : Heap} (hn : (kys tb).Nodup) (hsub : ∀ q, q ∈ t1 → q ∈ tb) (hker : ∀ q, q ∈ tb → q.1 ∈ kys t1 → q ∈ t1) (hP : va_P D vwCl (wld cI cQ ad tb sg) H) (hD : va_D A (wld cI cQ ad tb sg)) (hk : ∀ q : Nat, q < H.size → ¬ va_A (wld cI cQ ad t1 sg) H.size q → H1[q]? = H[q]?) (hP2 : va_P D vwCl (wld cI cQ ad t1 sg2) H1) : va_P D vwCl (wld cI cQ ad tb (mix t1 sg2 sg)) H1 ∧ va_D A (wld cI cQ ad tb (mix t1 sg2 sg)) := by
  have hI := (wld_D hn).1 hD
  refine ⟨wld_P.2 (fun q hq => ?_), (wld_D hn).2 hI⟩
  by_cases e : q.1 ∈ kys t1
  · rw [mix_in e]
    exact wld_P.1 hP2 q (hker q hq e)
  · rw [mix_out e]
    have h1 := wld_P.1 hP q hq
    refine h1.kept (hk _ h1.lt (fun h => ?_))
    rcases h with ⟨k, x, h⟩ | h
    · obtain ⟨r, hr, er⟩ := wld_fst h
      have hr1 := List.mem_of_getElem? hr
      have := hI.1 q r hq (hsub r hr1) er
      exact e (by rw [this]; exact kys_in hr1)
    · exact absurd h1.lt (Nat.not_lt.mpr h)
