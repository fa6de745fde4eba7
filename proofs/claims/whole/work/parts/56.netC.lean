/-! the class's network: order, served, places, sums -/
def wC (b j : Nat) : Prop := (17 ≤ b ∧ b ≤ 21) ∨ (150 ≤ b ∧ b < 175 ∧ (b - 150) % 5 ≠ 0) ∨ (180 ≤ b ∧ b < 200) ∨ (b = 2 ∧ (j = 14 ∨ j = 15))
def eqW (c d : Hp) : Prop := ∀ b j, ¬ wC b j → d b j = c b j
theorem eqW.r {c : Hp} : eqW c c := fun _ _ _ => rfl
theorem eqW.t {c d e : Hp} (h : eqW c d) (h2 : eqW d e) : eqW c e := fun b j hn => (h2 b j hn).trans (h b j hn)
theorem eqW.fil {c : Hp} {b : Nat} {F : Nat → Int32} {t : Nat} (h : ∀ j, wC b j) : eqW c (fil c b F t) := fun a i hn => fil_out (Or.inl (fun e => hn (by rw [e]; exact h i)))
theorem eqW.up {c : Hp} {b j : Nat} {x : Int32} (h : wC b j) : eqW c (up2 c b j x) := fun a i hn => up2_o (by
  by_cases e : a = b
  · by_cases e2 : i = j
    · rw [e, e2] at hn; exact absurd h hn
    · exact Or.inr e2
  · exact Or.inl e)
/-- what the class holds of a network -/
def stC (c : Hp) (N : NT) : Prop := wfN N ∧ c 2 5 = nI (nF N) ∧ c 2 6 = nI (nR N) ∧ (∀ w, w < nF N → c 13 w = nI (nL N w) ∧ (∀ x, x < nL N w → c (140 + w) x = nI (nN N w x)) ∧ req (c (150 + 5 * w)) (nO N w)) ∧ ∀ v, v < 6 → c 10 v ≠ -9 → req (c (130 + v)) (nS N v) ∧ okRow (nS N v)
theorem stC_kp {c d : Hp} {N : NT} (h : stC c N) (hk : eqW c d) : stC d N := by
  obtain ⟨h0, h1, h2, h3, h4⟩ := h
  have hF := h0.1
  refine ⟨h0, by rw [hk 2 5 (by unfold wC; omega)]; exact h1, by rw [hk 2 6 (by unfold wC; omega)]; exact h2, fun w hw => ?_, fun v hv h9 => ?_⟩
  · obtain ⟨g1, g2, g3⟩ := h3 w hw
    refine ⟨by rw [hk 13 w (by unfold wC; omega)]; exact g1, fun x hx => by rw [hk (140 + w) x (by unfold wC; omega)]; exact g2 x hx, fun t ht => ?_⟩
    rw [hk (150 + 5 * w) t (by unfold wC; omega)]
    exact g3 t ht
  · rw [hk 10 v (by unfold wC; omega)] at h9
    obtain ⟨g1, g2⟩ := h4 v hv h9
    refine ⟨fun t ht => ?_, g2⟩
    rw [hk (130 + v) t (by unfold wC; omega)]
    exact g1 t ht
section C1
variable {sg c m : Hp} {N : NT}
theorem fil_fil {b : Nat} {F G : Nat → Int32} {n : Nat} : fil (fil sg b F n) b G n = fil sg b G n := by
  funext q j
  unfold fil
  by_cases e : q = b ∧ j < n
  · rw [if_pos e, if_pos e]
  · rw [if_neg e, if_neg e, if_neg e]
theorem fil_set {b v n : Nat} {F : Nat → Int32} {x : Int32} (hv : v < n) : up2 (fil sg b F n) b v x = fil sg b (fun i => if i = v then x else F i) n := by
  funext q j
  rw [up2_at]
  unfold fil
  by_cases e : q = b ∧ j = v
  · rw [if_pos e, if_pos ⟨e.1, by omega⟩]
    show x = if j = v then x else F j
    rw [if_pos e.2]
  · rw [if_neg e]
    by_cases e2 : q = b ∧ j < n
    · rw [if_pos e2, if_pos e2]
      show F j = if j = v then x else F j
      rw [if_neg (fun q2 => e ⟨e2.1, q2⟩)]
    · rw [if_neg e2, if_neg e2]
theorem shl1 : ∀ u, u < 6 → (1 : Int32) <<< (nI u &&& 31) = nI (2 ^ u) := by decide +kernel
theorem bit1 : ∀ d, d < 64 → ∀ v, v < 6 → ((nI d >>> (nI v &&& 31)) &&& 1 = 1 ↔ d.testBit v = true) := by decide +kernel
theorem bit2 : ∀ a, a < 64 → ∀ d, d < 64 → (nI a &&& (nI d ^^^ -1) = 0 ↔ sub6 a d) := by decide +kernel
def nt (a : Nat → Nat) (e : Nat × Nat) : Nat → Nat := fun y => if y = e.2 then a e.2 ||| 2 ^ e.1 else a y
theorem nt_bit : ∀ {E : List (Nat × Nat)} {a : Nat → Nat} {v u : Nat}, (E.foldl nt a v).testBit u = true ↔ (a v).testBit u = true ∨ (u, v) ∈ E
  | [], a, v, u => by
    show (a v).testBit u = true ↔ _
    constructor
    · exact Or.inl
    · rintro (h | h)
      · exact h
      · cases h
  | e :: E, a, v, u => by
    show (E.foldl nt (nt a e) v).testBit u = true ↔ _
    rw [nt_bit, List.mem_cons]
    unfold nt
    by_cases h : v = e.2
    · rw [if_pos h, fb_bit_set, h]
      constructor
      · rintro (q | q)
        · rcases Bool.or_eq_true _ _ |>.mp q with q | q
          · exact Or.inl q
          · exact Or.inr (Or.inl (by rw [of_decide_eq_true q]))
        · exact Or.inr (Or.inr q)
      · rintro (q | q | q)
        · exact Or.inl (by rw [q]; rfl)
        · refine Or.inl ?_
          rw [← q]
          simp
        · exact Or.inr q
    · rw [if_neg h]
      constructor
      · rintro (q | q)
        · exact Or.inl q
        · exact Or.inr (Or.inr q)
      · rintro (q | q | q)
        · exact Or.inl q
        · exact absurd (by rw [← q]) h
        · exact Or.inr q
theorem nt_lt : ∀ {E : List (Nat × Nat)} {a : Nat → Nat}, (∀ e, e ∈ E → e.1 < 6) → (∀ v, a v < 64) → ∀ v, E.foldl nt a v < 64
  | [], a, _, h => h
  | e :: E, a, hE, h => nt_lt (E := E) (a := nt a e) (fun e' he => hE e' (List.mem_cons_of_mem _ he)) (fun v => by
    unfold nt
    by_cases q : v = e.2
    · rw [if_pos q]; exact or_lt64 (h e.2) (hE e (List.mem_cons_self ..))
    · rw [if_neg q]; exact h v)
def S18 (sg : Hp) (a : Nat → Nat) : Hp := fil sg 18 (fun v => nI (a v)) 6
theorem note_in {K : Int32 → Hp → Option (Unit × Hp)} {w : Nat} (h : stC sg N) (hw : w < nF N) : ∀ (j x F : Nat) (a : Nat → Nat), j + x = nL N w → 1 ≤ x → j < F → L_X0_noteAhead_20 K F (nI w) (nI x) (S18 sg a) = K (nI w) (S18 sg ((edW N w j x).foldl nt a)) := by
  obtain ⟨h0, h1, h2, h3, h4⟩ := h
  have hF := h0.1
  obtain ⟨g1, g2, g3⟩ := h3 w hw
  obtain ⟨l1, l2, l3, -⟩ := h0.2.2 w hw
  intro j
  induction j with
  | zero =>
    intro x F a e1 e2 e3
    obtain ⟨F, rfl⟩ : ∃ q, F = q + 1 := ⟨F - 1, by omega⟩
    have q13 : S18 sg a 13 w = nI (nL N w) := by unfold S18; rw [fil_out (by omega)]; exact g1
    rw [L_X0_noteAhead_20, gd_t (inbN (by omega) (by omega)), nI_clamp (by omega), q13, if_pos (by rw [leN (by omega) (by omega)]; omega)]
    rfl
  | succ j ih =>
    intro x F a e1 e2 e3
    obtain ⟨F, rfl⟩ : ∃ q, F = q + 1 := ⟨F - 1, by omega⟩
    have q13 : S18 sg a 13 w = nI (nL N w) := by unfold S18; rw [fil_out (by omega)]; exact g1
    have q140 : ∀ i, i < nL N w → S18 sg a (140 + w) i = nI (nN N w i) := fun i hi => by unfold S18; rw [fil_out (by omega)]; exact g2 i hi
    have n1 := l3 x (by omega)
    have n2 := l3 (x - 1) (by omega)
    have q18 : S18 sg a 18 (nN N w x) = nI (a (nN N w x)) := by unfold S18; rw [fil_in n1]
    rw [L_X0_noteAhead_20, gd_t (inbN (by omega) (by omega)), nI_clamp (by omega), q13, if_neg (by rw [leN (by omega) (by omega)]; omega), gd_t (inbN (by omega) (by omega)), alW (by omega), gd_t (inbN (by omega) (by omega)), nI_clamp (by omega), q140 x (by omega), gd_t (inbN n1 (by omega)), gd_t (inbN (by omega) (by omega)), subN1 e2, gd_t (inbN (by omega) (by omega)), gd_t (inbN n1 (by omega)), nI_clamp (by omega), nI_clamp (by omega), q140 (x - 1) (by omega), q18, shl1 _ n2, fa_or, nI_1]
    have e9 : up2 (S18 sg a) 18 (nN N w x) (nI (a (nN N w x) ||| 2 ^ nN N w (x - 1))) = S18 sg (nt a (nN N w (x - 1), nN N w x)) := by
      unfold S18
      rw [fil_set n1]
      refine fil_cong (fun i hi => ?_)
      unfold nt
      by_cases q : i = nN N w x
      · rw [if_pos q, if_pos q]
      · rw [if_neg q, if_neg q]
    rw [e9]
    exact ih (x + 1) F _ (by omega) (by omega) (by omega)
theorem note_out {K : Hp → Option (Unit × Hp)} (h : stC sg N) : ∀ (j w F : Nat) (a : Nat → Nat), j + w = nF N → j < F → L_X0_noteAhead_10 K F (nI w) (S18 sg a) = K (S18 sg ((edF N j w).foldl nt a)) := by
  have h' := h
  obtain ⟨h0, h1, h2, h3, h4⟩ := h
  have hF := h0.1
  intro j
  induction j with
  | zero =>
    intro w F a e1 e2
    obtain ⟨F, rfl⟩ : ∃ q, F = q + 1 := ⟨F - 1, by omega⟩
    have q25 : S18 sg a 2 5 = nI (nF N) := by unfold S18; rw [fil_out (by omega)]; exact h1
    rw [L_X0_noteAhead_10, q25, if_pos (by rw [leN (by omega) (by omega)]; omega)]
    rfl
  | succ j ih =>
    intro w F a e1 e2
    obtain ⟨F, rfl⟩ : ∃ q, F = q + 1 := ⟨F - 1, by omega⟩
    obtain ⟨l1, l2, l3, -⟩ := h0.2.2 w (by omega)
    have q25 : S18 sg a 2 5 = nI (nF N) := by unfold S18; rw [fil_out (by omega)]; exact h1
    rw [L_X0_noteAhead_10, q25, if_neg (by rw [leN (by omega) (by omega)]; omega), i1, note_in h' (by omega) (nL N w - 1) 1 200 a (by omega) (by omega) (by omega), nI_add]
    unfold edF
    rw [List.foldl_append]
    exact ih (w + 1) F _ (by omega) (by omega)
theorem a18 : alen tC 18 = 6 := by decide +kernel
theorem a20 : alen tC 20 = 41 := by decide +kernel
theorem a21 : alen tC 21 = 41 := by decide +kernel
def ahd (N : NT) : Nat → Nat := (edg N).foldl nt (fun _ => 0)
theorem note_ok (h : stC sg N) : fX0_noteAhead sg = some ((), S18 sg (ahd N)) := by
  unfold fX0_noteAhead
  rw [jfill_ok a18 (by omega) (by omega), bnd_s]
  exact note_out h (nF N) 0 200 (fun _ => 0) (by omega) (by have := h.1.1; omega)
theorem edg6 (h : wfN N) : ∀ e, e ∈ edg N → e.1 < 6 ∧ e.2 < 6 := fun e he => by
  obtain ⟨w, x, h1, h2, rfl⟩ := mem_edg.1 he
  obtain ⟨l1, l2, l3, -⟩ := h.2.2 w h1
  exact ⟨l3 x (by omega), l3 (x + 1) h2⟩
theorem ahd_lt (h : wfN N) : ∀ v, ahd N v < 64 := nt_lt (fun e he => (edg6 h e he).1) (fun _ => by omega)
theorem ahd_bit {v u : Nat} : (ahd N v).testBit u = true ↔ (u, v) ∈ edg N := by
  unfold ahd
  rw [nt_bit]
  constructor
  · rintro (h | h)
    · rw [Nat.zero_testBit] at h; cases h
    · exact h
  · exact Or.inr
theorem ahdA (h : wfN N) : ∀ e, e ∈ edg N → e.1 < 6 ∧ e.2 < 6 ∧ (ahd N e.2).testBit e.1 = true := fun e he => ⟨(edg6 h e he).1, (edg6 h e he).2, ahd_bit.2 he⟩
def S19 (sg : Hp) (s : Nat × Nat × (Nat → Nat)) : Hp := fil sg 19 (fun i => nI (s.2.2 i)) s.2.1
theorem ord_in {K : Int32 → Int32 → Int32 → Hp → Option (Int32 × Hp)} {v3 : Int32} (hw : wfN N) (hA : ∀ v, v < 6 → sg 18 v = nI (ahd N v)) : ∀ (j v F : Nat) (s : Nat × Nat × (Nat → Nat)), j + v = 6 → j < F → OI (edg N) s → L_X0_orderNodes_19 K F (nI s.1) (nI s.2.1) v3 (nI v) (S19 sg s) = K (nI (oIn (ahd N) j v s).1) (nI (oIn (ahd N) j v s).2.1) v3 (S19 sg (oIn (ahd N) j v s)) := by
  intro j
  induction j with
  | zero =>
    intro v F s e1 e2 hI
    obtain ⟨F, rfl⟩ : ∃ q, F = q + 1 := ⟨F - 1, by omega⟩
    rw [L_X0_orderNodes_19, if_pos (by rw [i6, leN (by omega) (by omega)]; omega)]
    rfl
  | succ j ih =>
    intro v F s e1 e2 hI
    obtain ⟨F, rfl⟩ : ∃ q, F = q + 1 := ⟨F - 1, by omega⟩
    have hv : v < 6 := by omega
    have hd := hI.2.1
    have q18 : S19 sg s 18 v = nI (ahd N v) := by unfold S19; rw [fil_out (by omega)]; exact hA v hv
    have nx := ih (v + 1) F (oStep (ahd N) s v) (by omega) (by omega) (OI_step (ahdA hw) hv hI)
    have b1 := bit1 s.1 hd v hv
    have b2 := bit2 (ahd N v) (ahd_lt hw v) s.1 hd
    show L_X0_orderNodes_19 K (F + 1) (nI s.1) (nI s.2.1) v3 (nI v) (S19 sg s) = K (nI (oIn (ahd N) j (v + 1) (oStep (ahd N) s v)).1) (nI (oIn (ahd N) j (v + 1) (oStep (ahd N) s v)).2.1) v3 (S19 sg (oIn (ahd N) j (v + 1) (oStep (ahd N) s v)))
    rw [← nx, L_X0_orderNodes_19, if_neg (by rw [i6, leN (by omega) (by omega)]; omega)]
    unfold B_X0_orderNodes_41 B_X0_orderNodes_80
    by_cases hb : s.1.testBit v = true
    · have es : oStep (ahd N) s v = s := by
        unfold oStep
        rw [if_neg (fun q => by rw [hb] at q; cases q.1)]
      rw [if_pos (b1.2 hb), if_neg ne10, nI_1, es]
    · have hb' : s.1.testBit v = false := Bool.eq_false_iff.mpr hb
      rw [if_neg (fun q => hb (b1.1 q)), if_pos rfl, gd_t (inbN hv (by omega)), nI_clamp (by omega), q18, nI_1]
      by_cases hs : sub6 (ahd N v) s.1
      · have hc := OI_new hI hv hb'
        have es : oStep (ahd N) s v = (s.1 ||| 2 ^ v, s.2.1 + 1, fun i => if i = s.2.1 then v else s.2.2 i) := by
          unfold oStep
          rw [if_pos ⟨hb', hs⟩]
        have e9 : up2 (S19 sg s) 19 s.2.1 (nI v) = S19 sg (s.1 ||| 2 ^ v, s.2.1 + 1, fun i => if i = s.2.1 then v else s.2.2 i) := by
          unfold S19
          have e8 : fil sg 19 (fun i => nI (s.2.2 i)) s.2.1 = fil sg 19 (fun i => nI (if i = s.2.1 then v else s.2.2 i)) s.2.1 := fil_cong (fun i hi => by rw [if_neg (by omega)])
          rw [e8]
          exact fil_up (by
            show nI v = nI (if s.2.1 = s.2.1 then v else s.2.2 s.2.1)
            rw [if_pos rfl])
        rw [if_pos (b2.2 hs), gd_t (inbN (by omega) (by omega)), nI_clamp (by omega), shl1 v hv, fa_or, nI_1, e9, es]
      · have es : oStep (ahd N) s v = s := by
          unfold oStep
          rw [if_neg (fun q => hs q.2)]
        rw [if_neg (fun q => hs (b2.1 q)), nI_1, es]
theorem ord_out {K : Int32 → Hp → Option (Int32 × Hp)} (hw : wfN N) (hA : ∀ v, v < 6 → sg 18 v = nI (ahd N v)) : ∀ (j p F : Nat) (s : Nat × Nat × (Nat → Nat)), j + p = 6 → j < F → OI (edg N) s → L_X0_orderNodes_10 K F (nI s.1) (nI s.2.1) (nI p) (S19 sg s) = K (nI (oOut (ahd N) j s).2.1) (S19 sg (oOut (ahd N) j s)) := by
  intro j
  induction j with
  | zero =>
    intro p F s e1 e2 hI
    obtain ⟨F, rfl⟩ : ∃ q, F = q + 1 := ⟨F - 1, by omega⟩
    rw [L_X0_orderNodes_10, if_pos (by rw [i6, leN (by omega) (by omega)]; omega)]
    rfl
  | succ j ih =>
    intro p F s e1 e2 hI
    obtain ⟨F, rfl⟩ : ∃ q, F = q + 1 := ⟨F - 1, by omega⟩
    rw [L_X0_orderNodes_10, if_neg (by rw [i6, leN (by omega) (by omega)]; omega), i0, ord_in hw hA 6 0 200 s (by omega) (by omega) hI, nI_1]
    exact ih (p + 1) F _ (by omega) (by omega) (OI_in (ahdA hw) (by omega) hI)
def ordr (N : NT) : Nat × Nat × (Nat → Nat) := oOut (ahd N) 6 (0, 0, fun _ => 0)
theorem OI_ordr (h : wfN N) : OI (edg N) (ordr N) := OI_out (ahdA h) OI_0
theorem order_eq (h : stC sg N) : fX0_orderNodes sg = some (nI (ordr N).2.1, S19 (S18 sg (ahd N)) (ordr N)) := by
  unfold fX0_orderNodes
  rw [note_ok h, bnd_s]
  have := ord_out (sg := S18 sg (ahd N)) (K := fun (w5_2 : Int32) (s6 : Hp) => some (w5_2, s6)) h.1 (fun v hv => by unfold S18; rw [fil_in hv]) 6 0 200 (0, 0, fun _ => 0) (by omega) (by omega) OI_0
  unfold S19 at this
  rw [show fil (S18 sg (ahd N)) 19 (fun i => nI (((0, 0, fun _ => 0) : Nat × Nat × (Nat → Nat)).2.2 i)) ((0, 0, fun _ => 0) : Nat × Nat × (Nat → Nat)).2.1 = S18 sg (ahd N) from fil_0] at this
  exact this
theorem order_kp {b j : Nat} (h1 : b ≠ 18) (h2 : b ≠ 19) : S19 (S18 sg (ahd N)) (ordr N) b j = sg b j := by
  unfold S19 S18
  rw [fil_out (by omega), fil_out (by omega)]
theorem order_ok (h : stC sg N) : ∃ d, fX0_orderNodes sg = some (nI (ordr N).2.1, d) ∧ eqW sg d ∧ ∀ i, i < (ordr N).2.1 → d 19 i = nI ((ordr N).2.2 i) := by
  refine ⟨S19 (S18 sg (ahd N)) (ordr N), order_eq h, ?_, fun i hi => ?_⟩
  · unfold S19 S18
    exact (eqW.fil (fun j => by unfold wC; omega)).t (eqW.fil (fun j => by unfold wC; omega))
  · unfold S19
    rw [fil_in hi]
theorem ordr_yes (h : wfN N) {ρ : Nat → Nat} (hr : rnk N ρ) : (ordr N).2.1 = 6 := oOut_grow (ahdA h) (fun v u _ _ hb => ahd_bit.1 hb) (rnk_rkE.1 hr) OI_0 (by show 6 ≤ 0 + 6; omega)
theorem ordr_rank (h : wfN N) (h6 : (ordr N).2.1 = 6) : ∃ ρ : Nat → Nat, rnk N ρ ∧ (∀ v, ρ v ≤ 5) ∧ (∀ v, v < 6 → (ordr N).2.2 (ρ v) = v) ∧ ∀ i, i < 6 → ρ ((ordr N).2.2 i) = i := by
  obtain ⟨ρ, h1, h2⟩ := OI_rank (edg6 h) (OI_ordr h) h6
  exact ⟨ρ, rnk_rkE.2 h1, h2⟩
end C1
