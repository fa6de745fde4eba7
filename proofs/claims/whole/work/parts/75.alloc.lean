/-! worlds by what is among them; addresses may change where nobody looks -/
theorem vaP_iff {D : va_G} {cl : List vw_C} {ws : va_W} {H : Heap} : va_P D cl ws H ↔ ∀ q, q ∈ ws → va_at D cl q H := by
  constructor
  · intro h q hq
    obtain ⟨k, hk⟩ := List.getElem?_of_mem hq
    exact h k q hk
  · intro h k q hk
    exact h q (List.mem_of_getElem? hk)
theorem vaD_iff {A : Nat → Prop} {ws : va_W} : va_D A ws ↔ (ws.map Prod.fst).Nodup ∧ ∀ a, a ∈ ws.map Prod.fst → A a := by
  constructor
  · intro h
    refine ⟨?_, fun a ha => ?_⟩
    · show List.Pairwise (· ≠ ·) _
      rw [List.pairwise_iff_getElem]
      intro i j hi hj hij e
      have hi2 : i < ws.length := by simpa using hi
      have hj2 : j < ws.length := by simpa using hj
      have := h.1 i j ws[i] ws[j] (List.getElem?_eq_getElem hi2) (List.getElem?_eq_getElem hj2) (by simpa using e)
      omega
    · obtain ⟨q, hq, rfl⟩ := List.mem_map.mp ha
      obtain ⟨k, hk⟩ := List.getElem?_of_mem hq
      exact h.2 k q hk
  · rintro ⟨h1, h2⟩
    refine ⟨fun i j p q hi hj e => ?_, fun k q hk => h2 _ (List.mem_map.mpr ⟨q, List.mem_of_getElem? hk, rfl⟩)⟩
    have a1 : (ws.map Prod.fst)[i]? = some p.1 := by rw [List.getElem?_map, hi]; rfl
    have a2 : (ws.map Prod.fst)[j]? = some p.1 := by rw [List.getElem?_map, hj, e]; rfl
    exact (List.getElem?_inj (List.getElem?_eq_some_iff.mp a1).1 h1).mp (a1.trans a2.symm)
theorem vaP_pm {D : va_G} {cl : List vw_C} {ws ws2 : va_W} {H : Heap} (h : ws.Perm ws2) (hP : va_P D cl ws H) : va_P D cl ws2 H := vaP_iff.2 (fun q hq => vaP_iff.1 hP q (h.mem_iff.2 hq))
theorem vaD_pm {A : Nat → Prop} {ws ws2 : va_W} (h : ws.Perm ws2) (hD : va_D A ws) : va_D A ws2 := vaD_iff.2 ⟨(h.map Prod.fst).nodup (vaD_iff.1 hD).1, fun a ha => (vaD_iff.1 hD).2 a ((h.map Prod.fst).mem_iff.2 ha)⟩
theorem vaP_l {D : va_G} {cl : List vw_C} {a b : va_W} {H : Heap} (hP : va_P D cl (a ++ b) H) : va_P D cl a H := vaP_iff.2 (fun q hq => vaP_iff.1 hP q (List.mem_append_left _ hq))
theorem vaP_r {D : va_G} {cl : List vw_C} {a b : va_W} {H : Heap} (hP : va_P D cl (a ++ b) H) : va_P D cl b H := vaP_iff.2 (fun q hq => vaP_iff.1 hP q (List.mem_append_right _ hq))
theorem vaD_l {A : Nat → Prop} {a b : va_W} (hD : va_D A (a ++ b)) : va_D A a := by
  have h := vaD_iff.1 hD
  rw [List.map_append, List.nodup_append] at h
  exact vaD_iff.2 ⟨h.1.1, fun x hx => h.2 x (List.mem_append_left _ hx)⟩
theorem vaD_r {A : Nat → Prop} {a b : va_W} (hD : va_D A (a ++ b)) : va_D A b := by
  have h := vaD_iff.1 hD
  rw [List.map_append, List.nodup_append] at h
  exact vaD_iff.2 ⟨h.1.2.1, fun x hx => h.2 x (List.mem_append_right _ hx)⟩
/-- behind a call: the rest, and what came back -/
theorem jn {A : Nat → Prop} {D : va_G} {cl : List vw_C} {wr wc w1 : va_W} {H H1 : Heap} (hP : va_P D cl (wr ++ wc) H) (hD : va_D A (wr ++ wc)) (hk : ∀ q : Nat, q < H.size → ¬ va_A wc H.size q → H1[q]? = H[q]?) (hA : ∀ q, va_A wc H.size q → A q) (hP1 : va_P D cl w1 H1) (hD1 : va_D (va_A wc H.size) w1) : va_P D cl (wr ++ w1) H1 ∧ va_D A (wr ++ w1) := by
  have hd := vaD_iff.1 hD
  have hn := hd.1
  rw [List.map_append, List.nodup_append] at hn
  have ap : ∀ q, q ∈ wr → q.1 < H.size ∧ ¬ va_A wc H.size q.1 := by
    intro q hq
    have hlt := (vaP_iff.1 hP q (List.mem_append_left _ hq)).lt
    refine ⟨hlt, fun h => ?_⟩
    rcases h with ⟨k, e, h⟩ | h
    · exact hn.2.2 q.1 (List.mem_map.mpr ⟨q, hq, rfl⟩) q.1 (List.mem_map.mpr ⟨(q.1, e), List.mem_of_getElem? h, rfl⟩) rfl
    · exact absurd hlt (Nat.not_lt.mpr h)
  have hd1 := vaD_iff.1 hD1
  refine ⟨vaP_iff.2 (fun q hq => ?_), vaD_iff.2 ⟨?_, fun a ha => ?_⟩⟩
  · rcases List.mem_append.mp hq with h | h
    · exact (vaP_iff.1 hP q (List.mem_append_left _ h)).kept (hk _ (ap q h).1 (ap q h).2)
    · exact vaP_iff.1 hP1 q h
  · rw [List.map_append, List.nodup_append]
    refine ⟨hn.1, hd1.1, fun a ha b hb e => ?_⟩
    obtain ⟨q, hq, rfl⟩ := List.mem_map.mp ha
    subst e
    exact (ap q hq).2 (hd1.2 _ hb)
  · rw [List.map_append] at ha
    rcases List.mem_append.mp ha with h | h
    · exact hd.2 a (by rw [List.map_append]; exact List.mem_append_left _ h)
    · exact hA a (hd1.2 a h)
/-! what is spoken of -/
def mV : Value → List Nat
  | .ref c => [c]
  | _ => []
def mX (X : List (Nat × Nat × List Value)) : List Nat := X.flatMap (fun q => q.1 :: q.2.2.flatMap mV)
def mT1 (q : Nat × Shp) : List Nat := q.1 :: (match q.2 with
  | .inl _ => []
  | .inr (.inl z) => (List.range z.1).map (fun i => z.2 + i)
  | .inr (.inr z) => z.2.filterMap id)
def mT (tb : Sd) : List Nat := tb.flatMap mT1
def mS (st : List Value) : List Nat := st.flatMap mV
def mLv (lv : List (Nat × Value)) : List Nat := lv.flatMap (fun q => mV q.2)
def frs (cs : List Nat) (X : List (Nat × Nat × List Value)) (tb : Sd) (lv : List (Nat × Value)) (st : List Value) : Bool := (mX X ++ (mT tb ++ (mLv lv ++ mS st))).all (fun b => !cs.contains b)
section AG
variable {ad ad2 : Nat → Nat} {D : va_G} {cI cQ : ClassId} {H : Heap} {sg : Hp}
theorem ag_V {v : Value} (h : ∀ b, b ∈ mV v → ad2 b = ad b) : trv ad2 v = trv ad v := by
  cases v <;> first | rfl | (show Value.ref _ = Value.ref _; rw [h _ (List.mem_cons_self)])
theorem ag_S {st : List Value} (h : ∀ b, b ∈ mS st → ad2 b = ad b) : st.map (trv ad2) = st.map (trv ad) :=
  List.map_congr_left (fun v hv => ag_V (fun b hb => h b (List.mem_flatMap.mpr ⟨v, hv, hb⟩)))
theorem ag_L {lv : List (Nat × Value)} (h : ∀ b, b ∈ mLv lv → ad2 b = ad b) : tlv ad2 lv = tlv ad lv :=
  List.map_congr_left (fun v hv => by rw [ag_V (fun b hb => h b (List.mem_flatMap.mpr ⟨v, hv, hb⟩))])
theorem ag_X {X : List (Nat × Nat × List Value)} (h : ∀ b, b ∈ mX X → ad2 b = ad b) : rawW ad2 X = rawW ad X :=
  List.map_congr_left (fun v hv => by
    have h1 : ∀ b, b ∈ v.1 :: v.2.2.flatMap mV → ad2 b = ad b := fun b hb => h b (List.mem_flatMap.mpr ⟨v, hv, hb⟩)
    rw [h1 v.1 List.mem_cons_self, ag_S (st := v.2.2) (fun b hb => h1 b (List.mem_cons_of_mem _ hb))])
theorem ag_fl {g : Nat → Int32} : ∀ {fl : List (Option Nat)} {j : Nat}, (∀ b, b ∈ fl.filterMap id → ad2 b = ad b) → flds ad2 fl j g = flds ad fl j g
  | [], _, _ => rfl
  | none :: r, j, h => by
    show Value.int (g j) :: flds ad2 r (j + 1) g = .int (g j) :: flds ad r (j + 1) g
    rw [ag_fl (fl := r) (fun b hb => h b (by simpa using hb))]
  | some c :: r, j, h => by
    show Value.ref (ad2 c) :: flds ad2 r (j + 1) g = .ref (ad c) :: flds ad r (j + 1) g
    rw [ag_fl (fl := r) (fun b hb => h b (by simp at hb ⊢; exact Or.inr hb)), h c (by simp)]
theorem arrV_cg {cA : ClassId} {n : Nat} {f g : Nat → Value} (h : ∀ j, j < n → f j = g j) : arrV cA n f = arrV cA n g := by
  unfold arrV
  have e : (Array.ofFn (n := n) fun j => f j.val) = Array.ofFn (n := n) fun j => g j.val := by
    congr 1
    funext j
    exact h j.val j.isLt
  rw [e]
theorem ag_1 {q : Nat × Shp} {g : Nat → Int32} (h : ∀ b, b ∈ mT1 q → ad2 b = ad b) (hP : va_at D vwCl (ad q.1, cel cI cQ ad q.2 g) H) : va_at D vwCl (ad2 q.1, cel cI cQ ad2 q.2 g) H := by
  obtain ⟨c, sh⟩ := q
  have h0 : ad2 c = ad c := h c List.mem_cons_self
  show va_at D vwCl (ad2 c, cel cI cQ ad2 sh g) H
  rw [h0]
  rcases sh with n | z | z
  · exact hP
  · have e : vp_cell cQ (z.1, .inr (.inr (.inr (.inr (fun i => some (ad2 (z.2 + i))))))) = vp_cell cQ (z.1, .inr (.inr (.inr (.inr (fun i => some (ad (z.2 + i))))))) := by
      rw [vp_cell_q, vp_cell_q]
      refine arrV_cg (fun j hj => ?_)
      show va_rf (some (ad2 (z.2 + j))) = va_rf (some (ad (z.2 + j)))
      rw [h (z.2 + j) (List.mem_cons_of_mem _ (List.mem_map.mpr ⟨j, List.mem_range.mpr hj, rfl⟩))]
    show H[ad c]? = some (vp_cell cQ _)
    rw [e]
    exact hP
  · have e : flds ad2 z.2 0 g = flds ad z.2 0 g := ag_fl (fun b hb => h b (List.mem_cons_of_mem _ hb))
    show va_at D vwCl (ad c, .inr (z.1, flds ad2 z.2 0 g)) H
    rw [e]
    exact hP
theorem ag_W {tb : Sd} (h : ∀ b, b ∈ mT tb → ad2 b = ad b) (hP : va_P D vwCl (wld cI cQ ad tb sg) H) : va_P D vwCl (wld cI cQ ad2 tb sg) H :=
  wld_P.2 (fun q hq => ag_1 (fun b hb => h b (List.mem_flatMap.mpr ⟨q, hq, hb⟩)) (wld_P.1 hP q hq))
theorem wld_f {tb : Sd} : (wld cI cQ ad tb sg).map Prod.fst = tb.map (fun q => ad q.1) := by
  unfold wld
  rw [List.map_map]
  rfl
theorem ag_f {tb : Sd} (h : ∀ b, b ∈ mT tb → ad2 b = ad b) : tb.map (fun q => ad2 q.1) = tb.map (fun q => ad q.1) :=
  List.map_congr_left (fun q hq => h q.1 (List.mem_flatMap.mpr ⟨q, hq, List.mem_cons_self⟩))
theorem wld_app {ta tz : Sd} : wld cI cQ ad (ta ++ tz) sg = wld cI cQ ad ta sg ++ wld cI cQ ad tz sg := List.map_append
/-- new cells behind the old ones, the addresses changed for what is new -/
theorem ext2 {A : Nat → Prop} {X : List (Nat × Nat × List Value)} {tb t1 : Sd} {w1 : va_W} (hX : ∀ b, b ∈ mX X → ad2 b = ad b) (hT : ∀ b, b ∈ mT tb → ad2 b = ad b) (hP : va_P D vwCl ((rawW ad X ++ wld cI cQ ad tb sg) ++ w1) H) (hD : va_D A ((rawW ad X ++ wld cI cQ ad tb sg) ++ w1)) (h1 : va_P D vwCl (wld cI cQ ad2 t1 sg) H) (h2 : t1.map (fun q => ad2 q.1) = w1.map Prod.fst) : va_P D vwCl (rawW ad2 X ++ wld cI cQ ad2 (tb ++ t1) sg) H ∧ va_D A (rawW ad2 X ++ wld cI cQ ad2 (tb ++ t1) sg) := by
  have hPa := vaP_l hP
  have e : (rawW ad2 X ++ wld cI cQ ad2 (tb ++ t1) sg).map Prod.fst = ((rawW ad X ++ wld cI cQ ad tb sg) ++ w1).map Prod.fst := by
    rw [wld_app, List.map_append, List.map_append, List.map_append, List.map_append, wld_f, wld_f, wld_f, ag_X hX, ag_f hT, h2, List.append_assoc]
  refine ⟨?_, ?_⟩
  · rw [ag_X hX, wld_app]
    exact (vaP_l hPa).app ((ag_W hT (vaP_r hPa)).app h1)
  · have h := vaD_iff.1 hD
    rw [← e] at h
    exact vaD_iff.2 h
end AG
theorem frs_ag {cs : List Nat} {X : List (Nat × Nat × List Value)} {tb : Sd} {lv : List (Nat × Value)} {st : List Value} {ad ad2 : Nat → Nat} (hf : frs cs X tb lv st = true) (hag : ∀ b, b ∉ cs → ad2 b = ad b) : (∀ b, b ∈ mX X → ad2 b = ad b) ∧ (∀ b, b ∈ mT tb → ad2 b = ad b) ∧ tlv ad2 lv = tlv ad lv ∧ st.map (trv ad2) = st.map (trv ad) := by
  unfold frs at hf
  have h : ∀ b, b ∈ mX X ++ (mT tb ++ (mLv lv ++ mS st)) → ad2 b = ad b := fun b hb => hag b (by
    have := List.all_eq_true.mp hf b hb
    simpa using this)
  refine ⟨fun b hb => h b (List.mem_append_left _ hb), fun b hb => h b (List.mem_append_right _ (List.mem_append_left _ hb)), ag_L (fun b hb => h b (List.mem_append_right _ (List.mem_append_right _ (List.mem_append_left _ hb)))), ag_S (fun b hb => h b (List.mem_append_right _ (List.mem_append_right _ (List.mem_append_right _ hb))))⟩
