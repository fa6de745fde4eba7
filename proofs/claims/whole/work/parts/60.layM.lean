section C5
variable {sg c m : Hp} {N : NT}
def inR (f b j : Nat) : Prop := b = 303 ∧ 41 * f ≤ j ∧ j < 41 * f + 41
theorem filM_kpR {f b j : Nat} {F : Nat → Int32} (h : ¬ inR f b j) : filM sg f F 41 b j = sg b j := by
  unfold filM
  rw [if_neg (show ¬ (b = 303 ∧ 41 * f ≤ j ∧ j < 41 * f + 41) from h)]
theorem mr_kpR {d : Hp} {f : Nat} {P : Nat → Nat → Prop} (hk : ∀ b j, ¬ P b j → d b j = sg b j) (hP : ∀ t, t < 41 → ¬ P 303 (41 * f + t)) : req (mr d f) (mr sg f) := fun t ht => hk _ _ (hP t ht)
def frT (q b j : Nat) : Prop := inR 84 b j ∨ inR (44 + q) b j ∨ inR (64 + q) b j ∨ (b = 318 ∧ j = q)
theorem frT_of {q b j : Nat} (h : inR 84 b j ∨ inR (44 + q) b j ∨ (b = 318 ∧ j = q)) : frT q b j := by
  rcases h with h | h | h
  · exact Or.inl h
  · exact Or.inr (Or.inl h)
  · exact Or.inr (Or.inr (Or.inr h))
theorem there_143 {w x : Nat} {s : Hp} (h : stM sg N) (hw : w < nF N) (hx : x < nL N w) (hk : ∀ b j, ¬ (inR 84 b j ∨ inR (44 + (4 * w + x)) b j ∨ (b = 318 ∧ j = 4 * w + x)) → s b j = sg b j) (hla : s 318 (4 * w + x) = laOf N (coM sg) w x) (hha : req (haM s w x) (haOf N (coM sg) w x)) (okc : okRow (coM sg w x)) (bha : rowB (haOf N (coM sg) w x)) : ∃ r d, B_X7_layThere_143 (nI (4 * w + x)) s = some (r, d) ∧ (∀ b j, ¬ frT (4 * w + x) b j → d b j = sg b j) ∧ ((r = 0 ∧ laOf N (coM sg) w x = -9) ∨ (r = 1 ∧ laOf N (coM sg) w x ≠ -9 ∧ req (haM d w x) (haOf N (coM sg) w x) ∧ d 318 (4 * w + x) = laOf N (coM sg) w x ∧ req (goM d w x) (goOf N (coM sg) w x))) := by
  have hF := h.1.1
  obtain ⟨l1, l2, l3, -⟩ := h.1.2.2 w hw
  have hR := h.1.2.1
  have s16 : s 300 16 = nI (nR N) := by rw [hk 300 16 (by unfold inR; omega)]; exact h.2.2.1
  have sco : req (mr s (24 + (4 * w + x))) (coM sg w x) := mr_kpR (P := fun b j => inR 84 b j ∨ inR (44 + (4 * w + x)) b j ∨ (b = 318 ∧ j = 4 * w + x)) hk (fun t ht => by unfold inR; omega)
  have e24 : (24 : Int32) + nI (4 * w + x) = nI (24 + (4 * w + x)) := by rw [show (24 : Int32) = nI 24 from rfl, nI_add]
  have e44 : (44 : Int32) + nI (4 * w + x) = nI (44 + (4 * w + x)) := by rw [show (44 : Int32) = nI 44 from rfl, nI_add]
  have e64 : (64 : Int32) + nI (4 * w + x) = nI (64 + (4 * w + x)) := by rw [show (64 : Int32) = nI 64 from rfl, nI_add]
  have frm : ∀ (F : Nat → Int32) b j, ¬ frT (4 * w + x) b j → filM s (64 + (4 * w + x)) F 41 b j = sg b j := fun F b j hb => by
    rw [filM_kpR (fun q => hb (Or.inr (Or.inr (Or.inl q)))), hk b j (fun q => hb (frT_of q))]
  have fin : ∀ (F : Nat → Int32), req F (goOf N (coM sg) w x) → laOf N (coM sg) w x ≠ -9 → ∃ r d, some ((1 : Int32), filM s (64 + (4 * w + x)) F 41) = some (r, d) ∧ (∀ b j, ¬ frT (4 * w + x) b j → d b j = sg b j) ∧ ((r = 0 ∧ laOf N (coM sg) w x = -9) ∨ (r = 1 ∧ laOf N (coM sg) w x ≠ -9 ∧ req (haM d w x) (haOf N (coM sg) w x) ∧ d 318 (4 * w + x) = laOf N (coM sg) w x ∧ req (goM d w x) (goOf N (coM sg) w x))) := by
    intro F hFF h9
    refine ⟨1, _, rfl, frm F, Or.inr ⟨rfl, h9, fun t ht => ?_, ?_, fun t ht => ?_⟩⟩
    · unfold haM
      rw [filM_out ht (by omega) (by omega)]
      exact hha t ht
    · rw [filM_o (by omega)]; exact hla
    · unfold goM
      rw [filM_in ht (by omega) ht]
      exact hFF t ht
  unfold B_X7_layThere_143 B_X7_layThere_208
  rw [gd_t (inbN (by omega) (by omega)), nI_clamp (by omega), hla]
  rcases la_cases N (coM sg) w x with e | ⟨q, hq, e⟩
  · rw [if_neg (by rw [e]; decide)]
    exact ⟨0, s, rfl, fun b j hb => hk b j (fun q => hb (frT_of q)), Or.inl ⟨rfl, e⟩⟩
  · have n9 : laOf N (coM sg) w x ≠ -9 := by rw [e]; exact nn9 (by omega)
    rw [if_pos (by rw [e]; exact nI_pos' (by omega)), s16, e24, e44, e64]
    by_cases hr : nR N = 2
    · rw [if_pos (by rw [hr]; rfl), gd_t (inbN (by omega) (by omega)), e, layAhead_ok hq (by omega) (by omega) (by omega) (rowB_req (fun t ht => (sco t ht).symm) okc.2.1), bnd_s]
      rw [← e]
      refine fin _ ?_ n9
      intro t ht
      unfold goOf
      rw [if_pos hr, e, nI_clamp (by omega)]
      exact sAhead_cong sco t ht
    · rw [if_neg (by rw [show (2 : Int32) = nI 2 from rfl, eqN (by omega) (by omega)]; exact hr), layOut_ok (by omega) (by omega) (by omega) (by omega) (by omega) (rowB_req (fun t ht => (sco t ht).symm) okc.2.1) (rowB_req (fun t ht => (hha t ht).symm) bha), bnd_s]
      refine fin _ ?_ n9
      intro t ht
      unfold goOf
      rw [if_neg hr]
      exact sOut_cong sco hha t ht
theorem sBack0 {f : Nat → Int32} : req (sBack f 0) f := fun t _ => by
  unfold sBack
  rw [if_neg (by omega), Nat.sub_zero]
theorem thereM {w x : Nat} (h : stM sg N) (hw : w < nF N) (hx : x < nL N w) (hu : ¬ unsM sg N) (hco : ∀ w' x', w' < nF N → x' < nL N w' → nN N w' x' = nN N w x → okRow (coM sg w' x')) : ∃ r d, fX7_layThere (nI w) (nI x) sg = some (r, d) ∧ (∀ b j, ¬ frT (4 * w + x) b j → d b j = sg b j) ∧ ((r = 0 ∧ laOf N (coM sg) w x = -9) ∨ (r = 1 ∧ laOf N (coM sg) w x ≠ -9 ∧ req (haM d w x) (haOf N (coM sg) w x) ∧ d 318 (4 * w + x) = laOf N (coM sg) w x ∧ req (goM d w x) (goOf N (coM sg) w x))) := by
  have hF := h.1.1
  have hR3 := h.1.2.1
  obtain ⟨l1, l2, l3, -⟩ := h.1.2.2 w hw
  have hv := l3 x hx
  obtain ⟨g1, g2, -⟩ := h.2.2.2.1 w hw
  obtain ⟨f, f1, f2, f3, okS⟩ := h.2.2.2.2 _ hv (fun q => hu ⟨w, x, hw, hx, q⟩)
  have okc := hco w x hw hx rfl
  have bha := rowB_ha (co := coM sg) hw okS hco
  have ex : (4 : Int32) * nI w + nI x = nI (4 * w + x) := by rw [i4, pk_mul, nI_add]
  have e24 : (24 : Int32) + nI (4 * w + x) = nI (24 + (4 * w + x)) := by rw [show (24 : Int32) = nI 24 from rfl, nI_add]
  have e44 : (44 : Int32) + nI (4 * w + x) = nI (44 + (4 * w + x)) := by rw [show (44 : Int32) = nI 44 from rfl, nI_add]
  have part : ∀ hi, hi ≤ nF N → nR N ≠ 2 → hi = (if nR N = 0 then w else nF N) → ∃ r d, B_X7_layThere_96 (nI w) (nI (nN N w x)) (nI (4 * w + x)) (nI hi) (nI (nN N w x)) sg = some (r, d) ∧ (∀ b j, ¬ frT (4 * w + x) b j → d b j = sg b j) ∧ ((r = 0 ∧ laOf N (coM sg) w x = -9) ∨ (r = 1 ∧ laOf N (coM sg) w x ≠ -9 ∧ req (haM d w x) (haOf N (coM sg) w x) ∧ d 318 (4 * w + x) = laOf N (coM sg) w x ∧ req (goM d w x) (goOf N (coM sg) w x))) := by
    intro hi hhi hr ehi
    have okm : okRow (smC N (coM sg) (nN N w x) (some w) hi) := ok_smC hco hhi
    unfold B_X7_layThere_96
    rw [sumM h hv hhi (butW (w := w) (by omega)), bnd_s]
    generalize hs : filM sg 84 (smC N (coM sg) (nN N w x) (some w) hi) 41 = s1
    have k1 : ∀ b j, ¬ inR 84 b j → s1 b j = sg b j := fun b j hb => by rw [← hs, filM_kpR hb]
    have s84 : req (mr s1 84) (smC N (coM sg) (nN N w x) (some w) hi) := fun t ht => by rw [← hs, filM_in ht (by omega) ht]
    have sf : req (mr s1 f) (nS N (nN N w x)) := (mr_kpR (P := inR 84) k1 (fun t ht => by unfold inR; omega)).trans f3
    have s11 : s1 311 (nN N w x) = nI f := by rw [k1 _ _ (by unfold inR; omega)]; exact f2
    rw [gd_t (inbN hv (by omega)), nI_clamp (by omega), s11, show (84 : Int32) = nI 84 from rfl, e44, layLeft_ok (by omega) (by omega) (by omega) (rowB_req (fun t ht => (sf t ht).symm) okS.2.1) (rowB_req (fun t ht => (s84 t ht).symm) okm.2.1), bnd_s]
    generalize hs2 : filM s1 (44 + (4 * w + x)) (sLeft (mr s1 f) (mr s1 84)) 41 = s2
    have k2 : ∀ b j, ¬ (inR 84 b j ∨ inR (44 + (4 * w + x)) b j) → s2 b j = sg b j := fun b j hb => by rw [← hs2, filM_kpR (fun q => hb (Or.inr q)), k1 b j (fun q => hb (Or.inl q))]
    have s44 : req (mr s2 (44 + (4 * w + x))) (haOf N (coM sg) w x) := fun t ht => by
      rw [← hs2, filM_in ht (by omega) ht]
      unfold haOf
      rw [if_neg hr, ← ehi]
      exact sLeft_cong sf s84 t ht
    have s24 : req (mr s2 (24 + (4 * w + x))) (coM sg w x) := mr_kpR (P := fun b j => inR 84 b j ∨ inR (44 + (4 * w + x)) b j) k2 (fun t ht => by unfold inR; omega)
    have ela : sWait (mr s2 (24 + (4 * w + x))) (mr s2 (44 + (4 * w + x))) 20 = laOf N (coM sg) w x := by
      unfold laOf
      rw [if_neg hr]
      exact sWait_cong (fun t ht => s24 t (by omega)) s44
    rw [e24, i20, waitOf_ok (by omega) (by omega) (by omega), bnd_s, gd_t (inbN (by omega) (by omega)), nI_clamp (by omega), ela]
    refine there_143 h hw hx (fun b j hb => ?_) up2_s (fun t ht => ?_) okc bha
    · rw [up2_o (by omega), k2 b j (fun q => hb (q.elim Or.inl (fun q => Or.inr (Or.inl q))))]
    · unfold haM mr
      rw [up2_o (by omega)]
      exact s44 t ht
  unfold fX7_layThere
  rw [ex, gd_t (inbN (by omega) (by omega)), nI_clamp (by omega), g2 x hx, h.2.2.1, h.2.1]
  by_cases hr : nR N = 2
  · have okm : okRow (smC N (coM sg) (nN N w x) none (nF N)) := ok_smC hco (Nat.le_refl _)
    rw [if_pos (by rw [hr]; rfl), sumM h hv (Nat.le_refl _) but9, bnd_s]
    generalize hs : filM sg 84 (smC N (coM sg) (nN N w x) none (nF N)) 41 = s1
    have k1 : ∀ b j, ¬ inR 84 b j → s1 b j = sg b j := fun b j hb => by rw [← hs, filM_kpR hb]
    have s84 : req (mr s1 84) (smC N (coM sg) (nN N w x) none (nF N)) := fun t ht => by rw [← hs, filM_in ht (by omega) ht]
    have sf : req (mr s1 f) (nS N (nN N w x)) := (mr_kpR (P := inR 84) k1 (fun t ht => by unfold inR; omega)).trans f3
    have s11 : s1 311 (nN N w x) = nI f := by rw [k1 _ _ (by unfold inR; omega)]; exact f2
    have lb := layBack_ok (d := 0) (f := f) (to := 44 + (4 * w + x)) (sg := s1) (by omega) (by omega) (by omega) (by omega) (rowB_req (fun t ht => (sf t ht).symm) okS.2.1)
    rw [gd_t (inbN hv (by omega)), nI_clamp (by omega), s11, e44]
    rw [show (fX7_layMoved 0 (nI f) 0 (nI (44 + (4 * w + x))) s1) = some ((), filM s1 (44 + (4 * w + x)) (sBack (mr s1 f) 0) 41) from lb, bnd_s]
    generalize hs2 : filM s1 (44 + (4 * w + x)) (sBack (mr s1 f) 0) 41 = s2
    have k2 : ∀ b j, ¬ (inR 84 b j ∨ inR (44 + (4 * w + x)) b j) → s2 b j = sg b j := fun b j hb => by rw [← hs2, filM_kpR (fun q => hb (Or.inr q)), k1 b j (fun q => hb (Or.inl q))]
    have s44 : req (mr s2 (44 + (4 * w + x))) (nS N (nN N w x)) := fun t ht => by
      rw [← hs2, filM_in ht (by omega) ht]
      exact (sBack0 t ht).trans (sf t ht)
    have t84 : req (mr s2 84) (smC N (coM sg) (nN N w x) none (nF N)) := fun t ht => by
      rw [← hs2, filM_out ht (by omega) (by omega)]
      exact s84 t ht
    have ela : sWait (mr s2 84) (mr s2 (44 + (4 * w + x))) 20 = laOf N (coM sg) w x := by
      unfold laOf
      rw [if_pos hr]
      exact sWait_cong (fun t ht => t84 t (by omega)) s44
    rw [show (84 : Int32) = nI 84 from rfl, i20, waitOf_ok (by omega) (by omega) (by omega), bnd_s, gd_t (inbN (by omega) (by omega)), ela]
    refine there_143 h hw hx (fun b j hb => ?_) up2_s (fun t ht => ?_) okc bha
    · rw [up2_o (by omega), k2 b j (fun q => hb (q.elim Or.inl (fun q => Or.inr (Or.inl q))))]
    · unfold haM mr
      rw [up2_o (by omega)]
      unfold haOf
      rw [if_pos hr]
      exact s44 t ht
  · rw [if_neg (by rw [show (2 : Int32) = nI 2 from rfl, eqN (by omega) (by omega)]; exact hr)]
    by_cases h0 : nR N = 0
    · rw [if_pos (by rw [h0]; rfl)]
      exact part w (by omega) hr (by rw [if_pos h0])
    · rw [if_neg (by rw [i0, eqN (by omega) (by omega)]; exact h0)]
      exact part (nF N) (Nat.le_refl _) hr (by rw [if_neg h0])
theorem plc_uniq {w v x : Nat} (hN : wfN N) (hw : w < nF N) (hx : x < nL N w) (hv : nN N w x = v) : plc N w v = some x := by
  cases hp : plc N w v with
  | none => exact absurd hv (plc_none hp x hx)
  | some y =>
    obtain ⟨y1, y2, -⟩ := plc_some hp
    have hd := (hN.2.2 w hw).2.2.2.1
    rcases Nat.lt_trichotomy x y with q | q | q
    · exact absurd (hv.trans y2.symm) (hd x y q y1)
    · rw [q]
    · exact absurd (y2.trans hv.symm) (hd y x q hx)
/-- what comes at a node is laid -/
theorem comingM {K : Hp → Option (Unit × Hp)} {v : Nat} (hv : v < 6) : ∀ (j w F : Nat) (sg : Hp), j + w = nF N → j < F → stM sg N → (∀ w' x', w ≤ w' → w' < nF N → x' + 1 < nL N w' → nN N w' (x' + 1) = v → rowB (goM sg w' x')) → ∃ d, L_X7_layComing_2 K F (nI v) (nI w) sg = K d ∧ (∀ b i, ¬ (∃ w' x', w ≤ w' ∧ w' < nF N ∧ x' < nL N w' ∧ nN N w' x' = v ∧ inR (24 + (4 * w' + x')) b i) → d b i = sg b i) ∧ ∀ w' x', w ≤ w' → w' < nF N → x' < nL N w' → nN N w' x' = v → req (coM d w' x') (if x' = 0 then nO N w' else goM sg w' (x' - 1)) := by
  intro j
  induction j with
  | zero =>
    intro w F sg e1 e2 h hb
    have hF := h.1.1
    obtain ⟨F, rfl⟩ : ∃ q, F = q + 1 := ⟨F - 1, by omega⟩
    refine ⟨sg, ?_, fun _ _ _ => rfl, fun w' x' h1 h2 => by omega⟩
    rw [L_X7_layComing_2, h.2.1, if_pos (by rw [leN (by omega) (by omega)]; omega)]
  | succ j ih =>
    intro w F sg e1 e2 h hb
    have hF := h.1.1
    obtain ⟨F, rfl⟩ : ∃ q, F = q + 1 := ⟨F - 1, by omega⟩
    have hN := h.1
    rw [L_X7_layComing_2, h.2.1, if_neg (by rw [leN (by omega) (by omega)]; omega)]
    unfold B_X7_layComing_46 B_X7_layComing_58
    rw [nI_1]
    cases hp : plc N w v with
    | none =>
      rw [placeM_n h (by omega) hv hp, bnd_s, if_pos (by decide)]
      obtain ⟨d, d1, d2, d3⟩ := ih (w + 1) F sg (by omega) (by omega) h (fun w' x' h1 => hb w' x' (by omega))
      refine ⟨d, d1, fun b i hq => d2 b i (fun ⟨w', x', q1, q2⟩ => hq ⟨w', x', by omega, q2⟩), fun w' x' h1 h2 h3 h4 => ?_⟩
      by_cases e : w' = w
      · subst e
        exact absurd h4 (plc_none hp x' h3)
      · exact d3 w' x' (by omega) h2 h3 h4
    | some x =>
      obtain ⟨x1, x2, -⟩ := plc_some hp
      obtain ⟨l1, l2, l3, -, okO⟩ := hN.2.2 w (by omega)
      obtain ⟨g1, g2, f, g3, g4, g5⟩ := h.2.2.2.1 w (by omega)
      have ex : (24 : Int32) + 4 * nI w + nI x = nI (24 + (4 * w + x)) := by
        rw [i4, show (24 : Int32) = nI 24 from rfl, pk_mul, nI_add, nI_add, Nat.add_assoc]
      have src : ∃ s0, s0 < 84 ∧ s0 ≠ 24 + (4 * w + x) ∧ rowB (mr sg s0) ∧ req (mr sg s0) (if x = 0 then nO N w else goM sg w (x - 1)) ∧ (if nI x = 0 then (gd (inb (nI w) 5) (bnd (fX7_layMoved 0 (sg 313 (nI w).toNatClampNeg) (0 : Int32) (((24 : Int32) + ((4 : Int32) * nI w)) + nI x) sg) (fun (_ : Unit) (s4 : Hp) => L_X7_layComing_2 K F (nI v) (nI (w + 1)) s4))) else (bnd (fX7_layMoved 0 ((((64 : Int32) + ((4 : Int32) * nI w)) + nI x) - (1 : Int32)) (0 : Int32) (((24 : Int32) + ((4 : Int32) * nI w)) + nI x) sg) (fun (_ : Unit) (s4 : Hp) => L_X7_layComing_2 K F (nI v) (nI (w + 1)) s4))) = bnd (fX7_layMoved 0 (nI s0) (nI 0) (nI (24 + (4 * w + x))) sg) (fun (_ : Unit) (s4 : Hp) => L_X7_layComing_2 K F (nI v) (nI (w + 1)) s4) := by
        by_cases e0 : x = 0
        · refine ⟨f, by omega, by omega, rowB_req (fun t ht => (g5 t ht).symm) okO.2.1, by rw [if_pos e0]; exact g5, ?_⟩
          rw [if_pos (by rw [e0]; rfl), gd_t (inbN (by omega) (by omega)), nI_clamp (by omega), g4, ex]
          rfl
        · have bb := hb w (x - 1) (by omega) (by omega) (by omega) (by rw [show x - 1 + 1 = x by omega]; exact x2)
          refine ⟨64 + (4 * w + (x - 1)), by omega, by omega, bb, by rw [if_neg e0]; exact req.rfl', ?_⟩
          have e6 : (64 : Int32) + 4 * nI w + nI x - 1 = nI (64 + (4 * w + (x - 1))) := by
            rw [i4, show (64 : Int32) = nI 64 from rfl, pk_mul, nI_add, nI_add, subN1 (by omega)]
            congr 1
            omega
          rw [if_neg (by rw [i0, eqN (by omega) (by omega)]; exact e0), e6, ex]
          rfl
      obtain ⟨s0, s1, s2, s3, s4, s5⟩ := src
      rw [placeM_s h (by omega) hv hp, bnd_s, if_neg (nneg (by omega)), s5]
      have lb := layBack_ok (d := 0) (f := s0) (to := 24 + (4 * w + x)) (sg := sg) (by omega) (by omega) (by omega) s2 s3
      rw [show (fX7_layMoved 0 (nI s0) (nI 0) (nI (24 + (4 * w + x))) sg) = some ((), filM sg (24 + (4 * w + x)) (sBack (mr sg s0) 0) 41) from lb, bnd_s]
      have go_kp2 : ∀ w' x', w' < nF N → x' < nL N w' → req (goM (filM sg (24 + (4 * w + x)) (sBack (mr sg s0) 0) 41) w' x') (goM sg w' x') := fun w' x' h1 h2 t ht => by
        have := (hN.2.2 w' h1).2.1
        unfold goM
        rw [filM_out ht (by omega) (by omega)]
      obtain ⟨d, d1, d2, d3⟩ := ih (w + 1) F (filM sg (24 + (4 * w + x)) (sBack (mr sg s0) 0) 41) (by omega) (by omega) (stM_kp h (eqV.filM (by omega) (by omega))) (fun w' x' h1 h2 h3 h4 => rowB_req (fun t ht => (go_kp2 w' x' h2 (by omega) t ht).symm) (hb w' x' (by omega) h2 h3 h4))
      refine ⟨d, d1, fun b i hq => ?_, fun w' x' h1 h2 h3 h4 => ?_⟩
      · rw [d2 b i (fun ⟨w', x', q1, q2⟩ => hq ⟨w', x', by omega, q2⟩), filM_kpR (fun q => hq ⟨w, x, Nat.le_refl _, by omega, x1, x2, q⟩)]
      · have l4 := (hN.2.2 w' h2).2.1
        by_cases e : w' = w
        · subst e
          have hx' : x' = x := by
            have := plc_uniq hN h2 h3 h4
            rw [hp] at this
            cases this
            rfl
          subst hx'
          intro t ht
          have e1 : coM d w' x' t = coM (filM sg (24 + (4 * w' + x')) (sBack (mr sg s0) 0) 41) w' x' t := d2 _ _ (fun ⟨w2, x2', q1, q2, q3, q4, q5⟩ => by
            have := (hN.2.2 w2 q2).2.1
            unfold inR at q5
            omega)
          rw [e1]
          unfold coM
          rw [filM_in ht (by omega) ht]
          exact (sBack0 t ht).trans (s4 t ht)
        · refine (d3 w' x' (by omega) h2 h3 h4).trans ?_
          by_cases e0 : x' = 0
          · rw [if_pos e0, if_pos e0]; exact req.rfl'
          · rw [if_neg e0, if_neg e0]
            exact go_kp2 w' (x' - 1) h2 (by omega)
end C5
