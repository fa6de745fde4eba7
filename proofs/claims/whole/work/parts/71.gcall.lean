/-! worlds by what is in their tables -/
theorem wld_P {cI cQ : ClassId} {ad : Nat → Nat} {tb : Sd} {sg : Hp} {D : va_G} {H : Heap} : va_P D vwCl (wld cI cQ ad tb sg) H ↔ ∀ q, q ∈ tb → va_at D vwCl (ad q.1, cel cI cQ ad q.2 (sg q.1)) H := by
  constructor
  · intro h q hq
    obtain ⟨k, hk⟩ := List.getElem?_of_mem hq
    exact h k _ (wld_at hk)
  · intro h k x hx
    unfold wld at hx
    rw [List.getElem?_map] at hx
    cases hq : tb[k]? with
    | none => rw [hq] at hx; cases hx
    | some q =>
      rw [hq] at hx
      cases hx
      exact h q (List.mem_of_getElem? hq)
def kys (tb : Sd) : List Nat := tb.map (fun q => q.1)
theorem wld_fst {cI cQ : ClassId} {ad : Nat → Nat} {tb : Sd} {sg : Hp} {k : Nat} {x : Nat × va_E} (h : (wld cI cQ ad tb sg)[k]? = some x) : ∃ q, tb[k]? = some q ∧ x.1 = ad q.1 := by
  unfold wld at h
  rw [List.getElem?_map] at h
  cases hq : tb[k]? with
  | none => rw [hq] at h; cases h
  | some q =>
    rw [hq] at h
    cases h
    exact ⟨q, rfl, rfl⟩
def adI (ad : Nat → Nat) (tb : Sd) : Prop := ∀ q r, q ∈ tb → r ∈ tb → ad q.1 = ad r.1 → q.1 = r.1
theorem wld_D {cI cQ : ClassId} {ad : Nat → Nat} {tb : Sd} {sg : Hp} {A : Nat → Prop} (hn : (kys tb).Nodup) : va_D A (wld cI cQ ad tb sg) ↔ adI ad tb ∧ ∀ q, q ∈ tb → A (ad q.1) := by
  constructor
  · intro h
    refine ⟨fun q r hq hr e => ?_, fun q hq => ?_⟩
    · obtain ⟨i, hi⟩ := List.getElem?_of_mem hq
      obtain ⟨j, hj⟩ := List.getElem?_of_mem hr
      have := h.1 i j _ _ (wld_at (cI := cI) (cQ := cQ) (ad := ad) (sg := sg) hi) (wld_at hj) e
      subst this
      rw [hi] at hj
      cases hj
      rfl
    · obtain ⟨i, hi⟩ := List.getElem?_of_mem hq
      exact h.2 i _ (wld_at (cI := cI) (cQ := cQ) (ad := ad) (sg := sg) hi)
  · rintro ⟨h1, h2⟩
    refine ⟨fun i j x y hi hj e => ?_, fun k x hx => ?_⟩
    · obtain ⟨q, hq, eq⟩ := wld_fst hi
      obtain ⟨r, hr, er⟩ := wld_fst hj
      have e2 := h1 q r (List.mem_of_getElem? hq) (List.mem_of_getElem? hr) (by rw [← eq, ← er]; exact e)
      have a1 : (kys tb)[i]? = some q.1 := by unfold kys; rw [List.getElem?_map, hq]; rfl
      have a2 : (kys tb)[j]? = some q.1 := by unfold kys; rw [List.getElem?_map, hr, e2]; rfl
      have li := (List.getElem?_eq_some_iff.mp a1).1
      exact (List.getElem?_inj li hn).mp (a1.trans a2.symm)
    · obtain ⟨q, hq, eq⟩ := wld_fst hx
      rw [eq]
      exact h2 q (List.mem_of_getElem? hq)
def mix (t1 : Sd) (sg2 sg : Hp) : Hp := fun b => if b ∈ kys t1 then sg2 b else sg b
theorem mix_in {t1 : Sd} {sg2 sg : Hp} {b : Nat} (h : b ∈ kys t1) : mix t1 sg2 sg b = sg2 b := if_pos h
theorem mix_out {t1 : Sd} {sg2 sg : Hp} {b : Nat} (h : b ∉ kys t1) : mix t1 sg2 sg b = sg b := if_neg h
theorem kys_in {tb : Sd} {q : Nat × Shp} (h : q ∈ tb) : q.1 ∈ kys tb := List.mem_map.mpr ⟨q, h, rfl⟩
/-- behind a call over a part of the table -/
theorem wld_join {cI cQ : ClassId} {ad : Nat → Nat} {tb t1 : Sd} {sg sg2 : Hp} {D : va_G} {A : Nat → Prop} {H H1 : Heap} (hn : (kys tb).Nodup) (hsub : ∀ q, q ∈ t1 → q ∈ tb) (hker : ∀ q, q ∈ tb → q.1 ∈ kys t1 → q ∈ t1) (hP : va_P D vwCl (wld cI cQ ad tb sg) H) (hD : va_D A (wld cI cQ ad tb sg)) (hk : ∀ q : Nat, q < H.size → ¬ va_A (wld cI cQ ad t1 sg) H.size q → H1[q]? = H[q]?) (hP2 : va_P D vwCl (wld cI cQ ad t1 sg2) H1) : va_P D vwCl (wld cI cQ ad tb (mix t1 sg2 sg)) H1 ∧ va_D A (wld cI cQ ad tb (mix t1 sg2 sg)) := by
  have hI := (wld_D hn).1 hD
  refine ⟨wld_P.2 (fun q hq => ?_), (wld_D hn).2 hI⟩
  by_cases e : q.1 ∈ kys t1
  · rw [mix_in e]
    exact wld_P.1 hP2 q (hker q hq e)
  · rw [mix_out e]
    have h1 := wld_P.1 hP q hq
    refine h1.kept (hk _ h1.lt (fun h => ?_))
    rcases h with ⟨k, x, h⟩ | h
    · obtain ⟨r, hr, er⟩ := wld_fst h
      have hr1 := List.mem_of_getElem? hr
      have := hI.1 q r hq (hsub r hr1) er
      exact e (by rw [this]; exact kys_in hr1)
    · exact absurd h1.lt (Nat.not_lt.mpr h)
section GC
variable {M : Mth} {p : Program} {l : Launch} {e : Env} {R : Room} {s : State} {m : MethodId} {args : Array Value} {below : List Frame} {meth : Method} {c : Code} {D : va_G} {cI cQ : ClassId} {A : Nat → Prop} {Z : State → Prop} {ad : Nat → Nat} {tb : Sd} {mc ms pc : Nat} {lv : List (Nat × Value)} {st : List Value} {sg : Hp}
theorem g_callV (hc : cxt M p s m args meth c D cI cQ) {t1 : Sd} {d idx n c0 ci : Nat} {fl : List (Option Nat)} {q : vw_C} {M2 : Mth} {av : List Value} {Q2 : Option Value → Hp → Prop} (hn1 : (kys tb).Nodup) (hn2 : (kys t1).Nodup) (hsub : ∀ q, q ∈ t1 → q ∈ tb) (hker : ∀ q, q ∈ tb → q.1 ∈ kys t1 → q ∈ t1) (hA : ∀ q : Nat, s.heap.size ≤ q → A q) (hR1 : d + 1 ≤ R.frames) (hR2 : 8 + (M2.2.2.1 + 11) + 40 * d ≤ R.locals) (hR3 : mc ≤ R.cells) (hR4 : ms ≤ R.slots) (hm : cVt M.1.cls idx M2 n) (hn : av.length = n) (hsh : fnd t1 c0 = some (.inr (.inr (ci, fl)))) (hq : vwCl[ci]? = some q) (hqc : q.1 = M2.1.cls) (hlen : (lg_sl (.ref c0 :: av)).length ≤ M2.2.2.1) (hst : (st.map fun v => v.category).sum ≤ 8) (hd : decode M.2.1 pc = .ok (.invokevirtual idx, 3)) (hb : pw t1 d M2 0 (lv_args 0 (.ref c0 :: av)) [] sg Q2)
    (k : ∀ (r : Option Value) (sg2 : Hp), Q2 r sg2 → gw M p l e R s m args below meth c D cI cQ A Z [] ad tb mc ms (pc + 3) lv (r.toList ++ st) (mix t1 sg2 sg)) : gw M p l e R s m args below meth c D cI cQ A Z [] ad tb mc ms pc lv (av.reverse ++ .ref c0 :: st) sg := by
  intro H locs ls hP hD hS hl
  obtain ⟨m1, m2, m3, m4, m5, m6, m7, m8⟩ := hm
  obtain ⟨hx, hbb, hml, hret, hlk, hown, hts, hK⟩ := id hc
  have hP : va_P D vwCl (wld cI cQ ad tb sg) H := hP
  have hD : va_D A (wld cI cQ ad tb sg) := hD
  have hI := (wld_D hn1).1 hD
  have hP1 : va_P D vwCl (wld cI cQ ad t1 sg) H := wld_P.2 (fun q hq => wld_P.1 hP q (hsub q hq))
  have hD1 : va_D A (wld cI cQ ad t1 sg) := (wld_D hn2).2 ⟨fun q r hq hr => hI.1 q r (hsub q hq) (hsub r hr), fun q hq => hI.2 q (hsub q hq)⟩
  have cw := callB_of (R := R) (mc := 0) (ms := 0) n hts (good_M m5) rfl (rm := rmd d) rfl rfl (hts _ m4) (hts _ m1) m7 ⟨hR1, hR2⟩
  obtain ⟨k0, hk0⟩ := fnd_at hsh
  have hrec := va_recv hK.1 hP1 hq (wld_at hk0)
  rw [hqc] at hrec
  have hr := va_runV (R := R) (l := l) (e := e) (below := below) (meth := meth) (locs := locs) (cells := mc) (slots := ms) (g := F0 m pc ls ((av.reverse ++ .ref c0 :: st).map (trv ad))) (As := av.map (trv ad)) (rest := st.map (trv ad)) ⟨hx, hbb, hml, hown, hts⟩ (met_of_pw m6 hlen hb l D cI cQ ad H.size) ⟨cw, hts _ m2, hts _ m3⟩ ⟨wpre_blind, hrec, fun U hU hW => ⟨rfl, by rw [hU], by rw [hU]; exact hP1, KK.warm hW hK, hD1.weaken (fun _ _ _ _ => trivial)⟩⟩ rfl (by rw [List.length_map]; exact hn) hl.1 (by show List.map (trv ad) (av.reverse ++ .ref c0 :: st) = _; rw [List.map_append, List.map_reverse]; rfl) (lv_room (by rw [cat_le]; exact hst)) hd ⟨hR3, hR4⟩
  intro T hT X
  obtain ⟨v, s0, t, T', L, h0, X', hL, e1, e2, ⟨⟨r, sg2, hv, hq2, hP2, hD2⟩, hz, hk⟩, stp⟩ := hr T hT X
  have hAA : ∀ q : Nat, va_A (wld cI cQ ad t1 sg) H.size q → A q := fun q hq => by
    rcases hq with ⟨k9, e9, h9⟩ | h9
    · exact hD1.2 k9 _ h9
    · exact hA q (Nat.le_trans hS.1 h9)
  have hv2 : v = r.map (trv ad) := by injection hv
  subst hv2
  rw [h0] at hz hk
  have hS2 : va_S A s.heap T'.heap (locs ++ L) := ⟨Nat.le_trans hS.1 (by rw [e1]; exact hz), fun q h1 h2 => by
      rw [e1, hk q (Nat.lt_of_lt_of_le h1 hS.1) (fun z => h2 (hAA q z))]
      exact hS.2.1 q h1 h2, fun q hq => by
      rcases List.mem_append.mp hq with h | h
      · exact hS.2.2 q h
      · exact hAA _ (hL q h)⟩
  obtain ⟨j1, j2⟩ := wld_join (sg2 := sg2) hn1 hsub hker hP hD (H1 := t.heap) hk hP2
  have K := k r sg2 hq2 T'.heap (locs ++ L) ls (by rw [e1]; exact j1) j2 hS2 hl
  have hst2 : (r.toList ++ st).map (trv ad) = (r.map (trv ad)).toList ++ st.map (trv ad) := by
    cases r <;> rfl
  rw [hst2] at K
  obtain ⟨t2, a1, b1⟩ := K T' rfl X'
  exact ⟨t2, stp t2 a1, b1⟩
end GC
