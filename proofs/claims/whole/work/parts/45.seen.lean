/-! what was seen -/
def cmR (f : Nat → Int32) (n : Nat) : Nat → Int32
  | 0 => 0
  | t + 1 => cmR f n t + (if t + 1 ≤ n then f t else 0)
section A6
variable {sg c m : Hp} {x y z u v : Int32}
theorem cmR_b {f : Nat → Int32} {n : Nat} (h : stp9 f n) : ∀ t, t < 41 → 0 ≤ (cmR f n t).toInt ∧ (cmR f n t).toInt ≤ 999 * t ∧ (t < 40 → 0 ≤ (cmR f n (t + 1)).toInt - (cmR f n t).toInt ∧ (cmR f n (t + 1)).toInt - (cmR f n t).toInt ≤ 999) := by
  have step : ∀ t, t < 40 → 0 ≤ (cmR f n t).toInt → (cmR f n t).toInt ≤ 999 * t → 0 ≤ (cmR f n (t + 1)).toInt - (cmR f n t).toInt ∧ (cmR f n (t + 1)).toInt - (cmR f n t).toInt ≤ 999 := by
    intro t ht h1 h2
    have e : ∃ v : Int32, (0 ≤ v.toInt ∧ v.toInt ≤ 999) ∧ cmR f n (t + 1) = cmR f n t + v := by
      by_cases hh : t + 1 ≤ n
      · exact ⟨f t, h t (by omega), by rw [cmR, if_pos hh]⟩
      · exact ⟨0, by decide, by rw [cmR, if_neg hh]⟩
    obtain ⟨v, hv, e⟩ := e
    rw [e, add_i (by omega) (by omega)]
    omega
  intro t
  induction t with
  | zero =>
    intro _
    have h0 : (cmR f n 0).toInt = 0 := by
      show (0 : Int32).toInt = 0
      decide
    exact ⟨by omega, by omega, fun h9 => step 0 h9 (by omega) (by omega)⟩
  | succ t ih =>
    intro ht
    obtain ⟨h1, h2, h3⟩ := ih (by omega)
    have h4 := h3 (by omega)
    refine ⟨by omega, by omega, fun h9 => step (t + 1) h9 (by omega) (by omega)⟩
theorem a22 : alen tC 22 = 41 := by decide +kernel
theorem a23 : alen tC 23 = 41 := by decide +kernel
theorem replaceBy_ok {n : Nat} (hn : n ≤ 40) : fX2_replaceBy 6 (nI n) sg = some ((), fil (up2 sg 3 2 (nI n)) 22 (cmR (sg 6) n) 41) := by
  unfold fX2_replaceBy
  rw [gd_t (inb0 (by omega)), cl0, show up2 (up2 sg 3 2 (nI n)) 22 0 0 = fil (up2 sg 3 2 (nI n)) 22 (cmR (sg 6) n) 1 from up2_fil0 rfl]
  exact nloop (N := 41) (M := 1) (fun f t => L_X2_replaceBy_14 (fun (s2 : Hp) => some ((), s2)) f 6 (nI n) (nI t) (fil (up2 sg 3 2 (nI n)) 22 (cmR (sg 6) n) t)) (some ((), fil (up2 sg 3 2 (nI n)) 22 (cmR (sg 6) n) 41))
    (fun f t h1 ht => by
      have e1 : ¬ (40 : Int32) < nI t := by rw [i40, ltN (by omega) (by omega)]; omega
      obtain ⟨w, rfl⟩ : ∃ w, t = w + 1 := ⟨t - 1, by omega⟩
      have ec : fil (up2 sg 3 2 (nI n)) 22 (cmR (sg 6) n) (w + 1) 22 w = cmR (sg 6) n w := fil_in (by omega)
      have e6 : fil (up2 sg 3 2 (nI n)) 22 (cmR (sg 6) n) (w + 1) 6 w = sg 6 w := by rw [fil_out (by omega), up2_o (by omega)]
      simp only [L_X2_replaceBy_14, if_neg e1, B_X2_replaceBy_47]
      rw [subN1 h1, show w + 1 - 1 = w by omega, gd_t (inbN (by omega) (by omega)), nI_clamp (show w < 2 ^ 31 by omega), ec]
      by_cases hh : n < w + 1
      · rw [if_pos (by rw [ltN (by omega) (by omega)]; exact hh), gd_t (inbN ht (by omega)), nI_clamp (by omega), nI_1, fil_up (F := cmR (sg 6) n)]
        show _ = cmR (sg 6) n w + _
        rw [if_neg (by omega)]
      · rw [if_neg (by rw [ltN (by omega) (by omega)]; exact hh), a6, gd_t (inbN (by omega) (by omega)), gd_t (inbN ht (by omega)), nI_clamp (show w + 1 < 2 ^ 31 by omega), nI_1, e6, fil_up (F := cmR (sg 6) n)]
        show _ = cmR (sg 6) n w + _
        rw [if_pos (by omega)])
    (fun f => by
      simp only [L_X2_replaceBy_14]
      rw [if_pos (by decide)])
    200 1 (by omega) (by omega) (by omega)
theorem see_in {k : Int32 → Hp → Option (Int32 × Hp)} {b n : Nat} (hn : n ≤ 40) (hb : b + n ≤ 240) (hs : stp9 (fun t => sg 322 (b + t)) n) : L_X7_see_76 k 200 (nI n) (nI b) 1 (filM sg 88 (cmR (fun t => sg 322 (b + t)) n) 1) = k (nI n) (filM sg 88 (cmR (fun t => sg 322 (b + t)) n) 41) :=
  nloop (N := 41) (M := 1) (fun f t => L_X7_see_76 k f (nI n) (nI b) (nI t) (filM sg 88 (cmR (fun t => sg 322 (b + t)) n) t)) (k (nI n) (filM sg 88 (cmR (fun t => sg 322 (b + t)) n) 41))
    (fun f t h9 ht => by
      obtain ⟨w, rfl⟩ : ∃ w, t = w + 1 := ⟨t - 1, by omega⟩
      have hbd := cmR_b hs (w + 1) ht
      simp only [L_X7_see_76, B_X7_see_121]
      rw [if_neg (nlt41 ht), subN1 h9, show w + 1 - 1 = w by omega, show (88 : Int32) = nI 88 from rfl, of_ok (by omega) (by omega), bnd_s, filM_in (by omega) (by omega) (by omega)]
      by_cases hh : n < w + 1
      · have ev : cmR (fun t => sg 322 (b + t)) n w + 0 = cmR (fun t => sg 322 (b + t)) n (w + 1) := by
          show _ = cmR (fun t => sg 322 (b + t)) n w + _
          rw [if_neg (by omega)]
        rw [if_pos (by rw [ltN (by omega) (by omega)]; exact hh), ev, set_ok (by omega) ht, bnd_s, nI_1, mnI_le (by rw [ti99]; omega), filM_up (F := cmR (fun t => sg 322 (b + t)) n) rfl]
      · have ei : nI b + nI (w + 1) - 1 = nI (b + w) := by rw [nI_add, subN1 (by omega)]; rfl
        have ev : cmR (fun t => sg 322 (b + t)) n w + sg 322 (b + w) = cmR (fun t => sg 322 (b + t)) n (w + 1) := by
          show _ = cmR (fun t => sg 322 (b + t)) n w + _
          rw [if_pos (by omega)]
        rw [if_neg (by rw [ltN (by omega) (by omega)]; exact hh), ei, gd_t (inbN (by omega) (by omega)), nI_clamp (by omega), filM_o (by omega), ev, set_ok (by omega) ht, bnd_s, nI_1, mnI_le (by rw [ti99]; omega), filM_up (F := cmR (fun t => sg 322 (b + t)) n) rfl])
    (fun f => by
      simp only [L_X7_see_76]
      rw [if_pos p41])
    200 1 (by omega) (by omega) (by omega)
theorem cmR_cong {f g : Nat → Int32} {n : Nat} (h : ∀ t, t < n → f t = g t) : ∀ t, cmR f n t = cmR g n t
  | 0 => rfl
  | t + 1 => by
    show cmR f n t + _ = cmR g n t + _
    rw [cmR_cong h t]
    by_cases hh : t + 1 ≤ n
    · rw [if_pos hh, if_pos hh, h t (by omega)]
    · rw [if_neg hh, if_neg hh]
theorem see_st (h : Rel c m) : Sim (fX6_see x y z u) (fX7_see x y z u) c m := by
  have hR := h
  obtain ⟨⟨n, h0⟩, hT, hF⟩ := h
  rcases tk_ok (x := x) (y := y) (z := z) (u := u) h0.2.1 with ⟨r, hr, e1, e2⟩ | ⟨k, i, q, hk, hiq, rfl, rfl, rfl, e1, e2, e3, e4⟩
  · refine ⟨r, up2 c 0 8 (flt r), up2 m 300 0 (flt r), ?_, ?_, Rel_fault hR⟩
    · unfold fX6_see fX6_seenOf
      rw [e1, bnd_s, if_neg (neg0 hr), bnd_s, ended_ok, bnd_s]
    · unfold fX7_see fX7_refused
      rcases e2 with ⟨e2, rfl⟩ | ⟨e2, e3⟩
      · rw [e2, bnd_s, if_neg ne10, bnd_s, show flt (-1) = 0 by decide]
      · rw [e2, bnd_s, if_pos rfl, e3, bnd_s, if_neg (negle hr)]
  · have efr : (60 : Int32) * nI k + nI i = nI (60 * k + i) := ix60
    have hrow : ∀ t, t < q → m 322 (60 * k + i + t) = tkn c (210 + k) i q 6 t := fun t ht => by rw [tkn_in ht]; exact e4 t ht
    by_cases hs : 1 ≤ q ∧ q ≤ 40 ∧ stp9 (tkn c (210 + k) i q 6) q
    · obtain ⟨s1, s2, s3⟩ := hs
      have s4 : stp9 (fun t => m 322 (60 * k + i + t)) q := fun t ht => by
        show 0 ≤ (m 322 (60 * k + i + t)).toInt ∧ (m 322 (60 * k + i + t)).toInt ≤ 999
        rw [hrow t ht]; exact s3 t ht
      generalize hd : tkn c (210 + k) i q = d at e1 hrow s3
      have hde : eqC c d := by rw [← hd]; exact tkn_eq
      have hd7 : d 0 7 = c 0 7 := by rw [← hd]; exact tkn_07
      refine ⟨nI q, up2 (fil (up2 d 3 2 (nI q)) 22 (cmR (d 6) q) 41) 0 8 0, up2 (filM (up2 m 300 19 (nI q)) 88 (cmR (fun t => (up2 m 300 19 (nI q)) 322 (60 * k + i + t)) q) 41) 300 0 0, ?_, ?_, ?_⟩
      · unfold fX6_see fX6_seenOf
        rw [e1, bnd_s, if_pos rfl, isRow_y s1 s2 s3, bnd_s, if_neg ne10, replaceBy_ok s2, bnd_s, bnd_s, ended_ok, bnd_s]
        have : flt (nI q) = 0 := by unfold flt; rw [if_neg (by rw [nI_toInt (by omega)]; omega)]
        rw [this]
      · unfold fX7_see fX7_refused
        have s5 : stp9 (fun t => (up2 m 300 19 (nI q)) 322 (60 * k + i + t)) q := fun t ht => by
          show 0 ≤ ((up2 m 300 19 (nI q)) 322 (60 * k + i + t)).toInt ∧ ((up2 m 300 19 (nI q)) 322 (60 * k + i + t)).toInt ≤ 999
          rw [up2_o (by omega)]; exact s4 t ht
        rw [e2, bnd_s, if_pos rfl, e3, bnd_s, if_pos (by decide), efr, areSteps_y s1 s2 s4 (by omega), bnd_s, if_neg ne10, show (88 : Int32) = nI 88 from rfl, z64, i0, set_ok (by omega) (by omega), bnd_s]
        have e0 : up2 (up2 m 300 19 (nI q)) 303 (41 * 88 + 0) (mnI (nI 0) 99999) = filM (up2 m 300 19 (nI q)) 88 (cmR (fun t => (up2 m 300 19 (nI q)) 322 (60 * k + i + t)) q) 1 := by
          have := filM_up (sg := up2 m 300 19 (nI q)) (f := 88) (F := cmR (fun t => (up2 m 300 19 (nI q)) 322 (60 * k + i + t)) q) (t := 0) (x := mnI (nI 0) 99999) mn0
          rw [filM_0] at this
          exact this
        rw [e0, see_in s2 (by omega) s5, bnd_s]
      · have ecm : ∀ t, cmR (fun t => (up2 m 300 19 (nI q)) 322 (60 * k + i + t)) q t = cmR (d 6) q t := cmR_cong (fun t ht => by
          show (up2 m 300 19 (nI q)) 322 (60 * k + i + t) = _
          rw [up2_o (by omega)]; exact hrow t ht)
        obtain ⟨a1, a2, a3, a4⟩ := h0
        have kc : ∀ b j, ¬ uSe b → ¬ sC b j → up2 (fil (up2 d 3 2 (nI q)) 22 (cmR (d 6) q) 41) 0 8 0 b j = c b j := fun b j q1 q2 => by
          unfold uSe at q1
          have q3 := q2
          unfold sC at q3
          rw [up2_o (by omega), fil_out (by omega), up2_o (by omega)]
          exact hde b j q2
        have km : ∀ b j, ¬ vSe b j → ¬ sM b j → up2 (filM (up2 m 300 19 (nI q)) 88 (cmR (fun t => (up2 m 300 19 (nI q)) 322 (60 * k + i + t)) q) 41) 300 0 0 b j = m b j := fun b j q1 q2 => by
          unfold vSe at q1
          unfold sM at q2
          rw [up2_o (by omega)]
          unfold filM
          rw [if_neg (by omega), up2_o (by omega)]
        refine ⟨⟨n, RSt_cg (fun b j hb => kc b j (by unfold uSt at hb; unfold uSe; omega) (by unfold uSt at hb; unfold sC; omega)) (fun b j hb => km b j (by unfold vSt at hb; unfold vSe; omega) (by unfold vSt at hb; unfold sM; omega)) a1, RSh_cg (fun b j hb => kc b j (by unfold uSh at hb; unfold uSe; omega) (by unfold uSh at hb; unfold sC; omega)) (fun b j hb => km b j (by unfold vSh at hb; unfold vSe; omega) (by unfold vSh at hb; unfold sM; omega)) a2, ?_, RNt_cg a1.1 (fun b j hb => kc b j (by unfold uNt at hb; unfold uSe; omega) (by unfold uNt at hb; unfold sC; omega)) (fun b j hb => km b j (by unfold vNt at hb; unfold vSe; omega) (by unfold vNt at hb; unfold sM; omega)) a4⟩, ?_, ?_⟩
        · refine ⟨q, s2, ?_, ?_, fun t ht => ?_, ?_, fun t ht => ?_⟩
          · rw [up2_o (by omega), fil_out (by omega), up2_s]
          · rw [up2_o (by omega), filM_o (by omega), up2_s]
          · have := filM_in (sg := up2 m 300 19 (nI q)) (f := 88) (F := cmR (fun t => (up2 m 300 19 (nI q)) 322 (60 * k + i + t)) q) (n := 41) ht (Nat.le_refl _) ht
            unfold mr at this ⊢
            rw [up2_o (by omega), this, ecm t, up2_o (by omega), fil_in ht]
          · rw [up2_o (by omega), fil_in (by omega)]; rfl
          · rw [up2_o (by omega), fil_in (by omega), up2_o (by omega), fil_in (by omega)]
            exact (cmR_b s3 t (by omega)).2.2 ht
        · rw [up2_o (by omega), fil_out (by omega), up2_o (by omega), hd7, up2_o (by omega), filM_o (by omega), up2_o (by omega)]
          exact hT
        · rw [up2_s, up2_s]
    · refine ⟨-2, up2 (tkn c (210 + k) i q) 0 8 0, up2 m 300 0 0, ?_, ?_, Rel_end (tkn_eq.t (eqC.up (by unfold sC; omega))) (eqM.up (by unfold sM; omega)) h0 ?_ (by rw [up2_s, up2_s])⟩
      · unfold fX6_see fX6_seenOf
        rw [e1, bnd_s, if_pos rfl, isRow_n (by omega) hs, bnd_s, if_pos rfl, bnd_s, ended_ok, bnd_s, show flt (-2) = 0 by decide]
      · unfold fX7_see fX7_refused
        rw [e2, bnd_s, if_pos rfl, e3, bnd_s, if_pos (by decide), efr, areSteps_n (by omega) (by omega) (fun q2 => hs ⟨q2.1, q2.2.1, fun t ht => by rw [← hrow t ht]; exact q2.2.2 t ht⟩), bnd_s, if_pos rfl, bnd_s]
      · rw [up2_o (by omega), up2_o (by omega), tkn_07]
        exact hT
/-! where it breaks -/
def inB (f g : Nat → Int32) (t : Nat) : Nat → Option Nat
  | 0 => none
  | s + 1 => if f t - f s ≤ g (t - s) then inB f g t s else some s
theorem inB_lt {f g : Nat → Int32} {t : Nat} : ∀ {s q}, inB f g t s = some q → q < s
  | 0, q, h => by
    unfold inB at h
    cases h
  | s + 1, q, h => by
    unfold inB at h
    by_cases e : f t - f s ≤ g (t - s)
    · rw [if_pos e] at h
      have := inB_lt h
      omega
    · rw [if_neg e] at h
      cases h
      omega
def outB (f g : Nat → Int32) : Nat → Nat → Option (Nat × Nat)
  | 0, _ => none
  | n + 1, t => match inB f g t t with
    | some s => some (t, s)
    | none => outB f g n (t + 1)
theorem inB_cong {f f2 g g2 : Nat → Int32} {t : Nat} (ht : t < 41) (h : req f f2) (h2 : req g g2) : ∀ {s}, s ≤ t → inB f g t s = inB f2 g2 t s
  | 0, _ => rfl
  | s + 1, hs => by
    unfold inB
    rw [h t ht, h s (by omega), h2 (t - s) (by omega), inB_cong ht h h2 (s := s) (by omega)]
theorem outB_cong {f f2 g g2 : Nat → Int32} (h : req f f2) (h2 : req g g2) : ∀ {n t}, n + t ≤ 41 → outB f g n t = outB f2 g2 n t
  | 0, _, _ => rfl
  | n + 1, t, hn => by
    unfold outB
    rw [inB_cong (by omega) h h2 (Nat.le_refl t), outB_cong h h2 (n := n) (t := t + 1) (by omega)]
theorem im1 : nI 0 - 1 = -1 := by decide
theorem nIm1 {s : Nat} : nI (s + 1) - 1 = nI s := nI_pred s
theorem nIm2 {s : Nat} : nI s + -1 = nI s - 1 := by
  rw [fa_eq, Int32.toInt_add, Int32.toInt_sub]
  rfl
theorem brkC_in {a : Nat} {k52 : Nat → Int32 → Hp → Option (Int32 × Hp)} {k39 : Int32 → Int32 → Hp → Option (Int32 × Hp)} {t : Nat} (ha : alen tC a = 41) (ht : t < 41) : ∀ (s n : Nat), s ≤ t → s < n → L_X2_firstBreak_14 k52 k39 n a (nI t) (nI s - 1) sg = match inB (sg 22) (sg a) t s with
    | some q => k39 (nI t) (nI q) sg
    | none => k52 a (nI t) sg := by
  intro s
  induction s with
  | zero =>
    intro n h1 h2
    obtain ⟨n, rfl⟩ : ∃ w, n = w + 1 := ⟨n - 1, by omega⟩
    rw [L_X2_firstBreak_14, im1, if_pos (by decide)]
    rfl
  | succ s ih =>
    intro n h1 h2
    obtain ⟨n, rfl⟩ : ∃ w, n = w + 1 := ⟨n - 1, by omega⟩
    rw [L_X2_firstBreak_14, nIm1, if_neg (nneg (by omega)), gd_t (inbN ht (by omega)), gd_t (inbN (by omega) (by omega)), pk_sub (by omega), ha, gd_t (inbN (by omega) (by omega)), nI_clamp (by omega), nI_clamp (by omega), nI_clamp (by omega)]
    unfold inB
    by_cases e : sg 22 t - sg 22 s ≤ sg a (t - s)
    · rw [if_pos e, if_pos e, nIm2]
      exact ih n (by omega) (by omega)
    · rw [if_neg e, if_neg e]
theorem brkC {a k : Nat} (ha : alen tC a = 41) (hk : k ≤ 40) (hc : sg 3 2 = nI k) : fX2_firstBreak a sg = some (match outB (sg 22) (sg a) k 1 with
    | some q => nI (100 * q.1 + q.2)
    | none => -9, sg) := by
  unfold fX2_firstBreak
  have key : ∀ (j t n : Nat), j + t = k + 1 → j < n → L_X2_firstBreak_2 (fun (s4 : Hp) => some ((-9 : Int32), s4)) (fun (w2 : Int32) (w3 : Int32) (s6 : Hp) => some (((100 : Int32) * w2) + w3, s6)) n a (nI t) sg = some (match outB (sg 22) (sg a) j t with
    | some q => nI (100 * q.1 + q.2)
    | none => -9, sg) := by
    intro j
    induction j with
    | zero =>
      intro t n h1 h2
      obtain ⟨n, rfl⟩ : ∃ w, n = w + 1 := ⟨n - 1, by omega⟩
      rw [L_X2_firstBreak_2, hc, if_pos (by rw [ltN (by omega) (by omega)]; omega)]
      rfl
    | succ j ih =>
      intro t n h1 h2
      obtain ⟨n, rfl⟩ : ∃ w, n = w + 1 := ⟨n - 1, by omega⟩
      rw [L_X2_firstBreak_2, hc, if_neg (by rw [ltN (by omega) (by omega)]; omega), brkC_in ha (by omega) t 200 (Nat.le_refl _) (by omega)]
      unfold outB
      cases e : inB (sg 22) (sg a) t t with
      | some q =>
        show some ((100 : Int32) * nI t + nI q, sg) = some (nI (100 * t + q), sg)
        rw [show (100 : Int32) = nI 100 from rfl, pk_mul, nI_add]
      | none =>
        show L_X2_firstBreak_2 _ _ n a (nI t + 1) sg = _
        rw [nI_1]
        exact ih (t + 1) n (by omega) (by omega)
  exact key k 1 200 (by omega) (by omega)
theorem brkM_in {a : Nat} {k57 : Int32 → Int32 → Hp → Option (Int32 × Hp)} {k44 : Int32 → Int32 → Hp → Option (Int32 × Hp)} {t : Nat} (ha : a < 90) (ht : t < 41) : ∀ (s n : Nat), s ≤ t → s < n → L_X7_breaks_14 k57 k44 n (nI a) (nI t) (nI s - 1) sg = match inB (mr sg 88) (mr sg a) t s with
    | some q => k44 (nI t) (nI q) sg
    | none => k57 (nI a) (nI t) sg := by
  intro s
  induction s with
  | zero =>
    intro n h1 h2
    obtain ⟨n, rfl⟩ : ∃ w, n = w + 1 := ⟨n - 1, by omega⟩
    rw [L_X7_breaks_14, im1, if_pos (by decide)]
    rfl
  | succ s ih =>
    intro n h1 h2
    obtain ⟨n, rfl⟩ : ∃ w, n = w + 1 := ⟨n - 1, by omega⟩
    rw [L_X7_breaks_14, nIm1, if_neg (nneg (by omega)), show (88 : Int32) = nI 88 from rfl, of_ok (by omega) ht, bnd_s, of_ok (by omega) (by omega), bnd_s, pk_sub (by omega), of_ok ha (by omega), bnd_s]
    unfold inB
    by_cases e : mr sg 88 t - mr sg 88 s ≤ mr sg a (t - s)
    · rw [if_pos e, if_pos e, nIm2]
      exact ih n (by omega) (by omega)
    · rw [if_neg e, if_neg e]
theorem brkM {a k : Nat} (ha : a < 90) (hk : k ≤ 40) (hc : sg 300 19 = nI k) : fX7_breaks (nI a) sg = some (match outB (mr sg 88) (mr sg a) k 1 with
    | some q => nI (100 * q.1 + q.2)
    | none => -9, sg) := by
  unfold fX7_breaks
  have key : ∀ (j t n : Nat), j + t = k + 1 → j < n → L_X7_breaks_2 (fun (s4 : Hp) => some ((-9 : Int32), s4)) (fun (w2 : Int32) (w3 : Int32) (s6 : Hp) => some (((100 : Int32) * w2) + w3, s6)) n (nI a) (nI t) sg = some (match outB (mr sg 88) (mr sg a) j t with
    | some q => nI (100 * q.1 + q.2)
    | none => -9, sg) := by
    intro j
    induction j with
    | zero =>
      intro t n h1 h2
      obtain ⟨n, rfl⟩ : ∃ w, n = w + 1 := ⟨n - 1, by omega⟩
      rw [L_X7_breaks_2, hc, if_pos (by rw [ltN (by omega) (by omega)]; omega)]
      rfl
    | succ j ih =>
      intro t n h1 h2
      obtain ⟨n, rfl⟩ : ∃ w, n = w + 1 := ⟨n - 1, by omega⟩
      rw [L_X7_breaks_2, hc, if_neg (by rw [ltN (by omega) (by omega)]; omega), brkM_in ha (by omega) t 200 (Nat.le_refl _) (by omega)]
      unfold outB
      cases e : inB (mr sg 88) (mr sg a) t t with
      | some q =>
        show some ((100 : Int32) * nI t + nI q, sg) = some (nI (100 * t + q), sg)
        rw [show (100 : Int32) = nI 100 from rfl, pk_mul, nI_add]
      | none =>
        show L_X7_breaks_2 _ _ n (nI a) (nI t + 1) sg = _
        rw [nI_1]
        exact ih (t + 1) n (by omega) (by omega)
  exact key k 1 200 (by omega) (by omega)
end A6
